/-! WORLDS OF THE REFERENCE BEHIND ITS WRITES -/
theorem nbr_tr {u : XS} {x a : Nat} (h : nbr u x a = true) (b : Nat) : nbr u a b = nbr u x b := by
  unfold nbr at h ⊢
  rw [of_decide_eq_true h]
theorem Inv_le0 {T : Nat} {u : XS} (inv : Inv T u) {a b : Nat} (ha : a < 10) (hb : b < 10) (h : ¬ xLi u (a * 10 + b) = -9) (h2 : xLi u (a * 10 + b) ≤ 0) : xLi u (a * 10 + b) = 0 := by
  have hl : lnk u a b = true := by unfold lnk; simpa using h
  obtain ⟨-, -, -, h4, h5⟩ := Inv_lk inv ha hb hl
  by_cases e : xHo u a = xHo u b
  · exact h4 e
  · have := h5 e
    rw [Int32.le_iff_toInt_le] at h2
    exact absurd h2 (by show ¬ _ ≤ (0 : Int); omega)
theorem sOu_0 (u : XS) (b : Nat) : sOu u (upd (xOu u) b (xOu u b + nI 0)) = u := by
  have : upd (xOu u) b (xOu u b + nI 0) = xOu u := by
    rw [nI_0, Int32.add_zero]
    exact fa_upd_same rfl
  rw [this]
theorem obj_w {T : Nat} {u : XS} (inv : Inv T u) (cI cZ : ClassId) (ad : Nat → Nat) {h : Nat} (r : Bool) (hh : isHo (nI h) = true) (e : (nI h).toNatClampNeg = h) (hd : (xD u).testBit h = false) (hM : xM u < 10) :
    wG cI cZ ad (sHo (sM u (xM u + 1)) (va_up (xHo u) (xM u) h)) (gn u) (va_up (fun zz => (xR u).testBit zz) (xM u) r) = wM cI cZ ad (objS u (nI h) r) := by
  have eS : objS u (nI h) r = sR (sL (sHo (sM u (xM u + 1)) (va_up (xHo u) (xM u) h)) (xL u ||| 2 ^ xM u)) (if r then xR u ||| 2 ^ xM u else xR u) := by
    unfold objS
    rw [hh, e, hd]
    simp [hM]
  have eg : gn (objS u (nI h) r) = gn u := by
    rw [eS]
    apply nat_ext
    intro k
    rw [gn_bit, gn_bit]
    show (decide (k < xM u + 1) && !(xL u ||| 2 ^ xM u).testBit k) = true ↔ _
    rw [or_bit]
    by_cases q : xM u = k
    · subst q; simp
    · have : (k < xM u + 1) ↔ (k < xM u) := by omega
      simp [q, this]
  have er : (fun zz => (xR (objS u (nI h) r)).testBit zz) = va_up (fun zz => (xR u).testBit zz) (xM u) r := by
    rw [eS]
    funext k
    show (if r then xR u ||| 2 ^ xM u else xR u).testBit k = _
    unfold va_up
    by_cases q : k = xM u
    · subst q
      rw [if_pos rfl]
      cases r with
      | true => simp [or_bit]
      | false =>
        simp only [Bool.false_eq_true, if_false]
        cases hk : (xR u).testBit (xM u) with
        | false => rfl
        | true => exact absurd (Inv_rM inv hk) (Nat.lt_irrefl _)
    · first | rfl | rw [if_neg q]
      cases r with
      | true => simp [or_bit, Ne.symm q]
      | false => rfl
  show _ = wG cI cZ ad (objS u (nI h) r) (gn (objS u (nI h) r)) (fun zz => (xR (objS u (nI h) r)).testBit zz)
  rw [eg, er, eS]
  rfl
theorem roo_w {u : XS} (cI cZ : ClassId) (ad : Nat → Nat) {a : Nat} (is : Bool) (h : ¬ (xR u).testBit a = is) :
    wG cI cZ ad u (gn u) (va_up (fun zz => (xR u).testBit zz) a is) = wM cI cZ ad (sR u (xR u ^^^ 2 ^ a)) := by
  have er : (fun zz => (xR (sR u (xR u ^^^ 2 ^ a))).testBit zz) = va_up (fun zz => (xR u).testBit zz) a is := by
    funext k
    show (xR u ^^^ 2 ^ a).testBit k = _
    rw [Nat.testBit_xor, Nat.testBit_two_pow]
    unfold va_up
    by_cases q : k = a
    · subst q
      rw [if_pos rfl]
      cases h1 : (xR u).testBit k <;> cases is <;> simp_all
    · first | rfl | rw [if_neg q]
      simp [Ne.symm q]
  show _ = wG cI cZ ad (sR u (xR u ^^^ 2 ^ a)) (gn (sR u (xR u ^^^ 2 ^ a))) (fun zz => (xR (sR u (xR u ^^^ 2 ^ a))).testBit zz)
  rw [er]
  rfl
def becS (u : XS) (x : Nat) (r : Bool) : XS := if r then bgo (sro u x) x else bgo u x
theorem rs_step (u : XS) (x : Nat) (r : Bool) (i : Nat) : fol (rst u x r) (i + 1) u = rst u x r i (fol (rst u x r) i u) := rfl
theorem ls_step (x i : Nat) (f : Nat → Int32) : fol (lst x) (i + 1) f = lst x i (fol (lst x) i f) := rfl
theorem rsf_Li (u : XS) (x : Nat) (r : Bool) (n : Nat) (t : XS) : xLi (fol (rst u x r) n t) = xLi t := fol_Li (rst_Li u x r) n t
theorem rs0 {u t : XS} {x : Nat} {r : Bool} (h : t = fol (rst u x r) 100 u) : t = sLi (fol (rst u x r) 100 u) (fol (lst x) 0 (xLi u)) := by
  have e : fol (lst x) 0 (xLi u) = xLi (fol (rst u x r) 100 u) := (rsf_Li u x r 100 u).symm
  rw [e, h]
theorem bec_w {T : Nat} {u : XS} (inv : Inv T u) (cI cZ : ClassId) (ad : Nat → Nat) {x : Nat} (hx : sub x (xL u)) (r : Bool) :
    wG cI cZ ad (sLi (fol (rst u x r) 100 u) (fol (lst x) 100 (xLi u))) (gn u ||| x) (fun zz => (xR (sLi (fol (rst u x r) 100 u) (fol (lst x) 100 (xLi u)))).testBit zz) = wM cI cZ ad (becS u x r) := by
  rw [gn_bgo inv hx, ← gli_eq inv]
  cases r with
  | false => rw [rst_none]; rfl
  | true =>
    rw [sro_eq inv hx]
    obtain ⟨h1, h2, h3, h4, h5, h6, h7, h8, h9, h10, h11⟩ := sroK_all (u := u) x inv.1.1
    have e1 : gli (sro u x) x = gli u x := by unfold gli; rw [h1, h9]
    have e2 : gn (bgo (sro u x) x) = gn (bgo u x) := by
      unfold gn
      show dif (2 ^ xM (sro u x) - 1) (dif (xL (sro u x)) x) = dif (2 ^ xM u - 1) (dif (xL u) x)
      rw [h1, h2]
    show _ = wG cI cZ ad (bgo (sro u x) x) (gn (bgo (sro u x) x)) (fun zz => (xR (bgo (sro u x) x)).testBit zz)
    rw [e2, ← e1]
    rfl
/-! STEPS, REACHING -/
theorem os1_eq (u : XS) (X a acc : Nat) : os1 u X a acc = acc ||| (if X.testBit a then frO u a else 0) := by
  unfold os1; split
  · rfl
  · exact (Nat.or_zero _).symm
theorem os2_eq (u : XS) (X k acc : Nat) : os2 u X k acc = acc ||| (if xRc u k < 10 ∧ X.testBit (xRc u k) = true then 2 ^ xAb u k else 0) := by
  unfold os2
  by_cases h1 : xRc u k < 10
  · by_cases h2 : X.testBit (xRc u k) = true
    · rw [if_pos h1, if_pos h2, if_pos ⟨h1, h2⟩]
    · rw [if_pos h1, if_neg h2, if_neg (fun q => h2 q.2), Nat.or_zero]
  · rw [if_neg h1, if_neg (fun q => h1 q.1), Nat.or_zero]
theorem mo1_eq (u : XS) (X a acc : Nat) : mo1 u X a acc = acc ||| (if X.testBit a then frO u a else 0) := by unfold mo1; split <;> rfl
theorem mo2_eq (u : XS) (X k acc : Nat) : mo2 u X k acc = acc ||| (if xRc u k < 10 ∧ X.testBit (xRc u k) = true ∧ (xL u).testBit (xAb u k) = true then 2 ^ xAb u k else 0) := by
  unfold mo2
  by_cases h1 : xRc u k < 10
  · by_cases h2 : X.testBit (xRc u k) = true
    · by_cases h3 : (xL u).testBit (xAb u k) = true
      · rw [if_pos h1, if_pos h2, if_pos h3, if_pos ⟨h1, h2, h3⟩]
      · rw [if_pos h1, if_pos h2, if_neg h3, if_neg (fun q => h3 q.2.2)]
    · rw [if_pos h1, if_neg h2, if_neg (fun q => h2 q.2.1)]
  · rw [if_neg h1, if_neg (fun q => h1 q.1)]
/-- what one step comes to -/
def onP (u : XS) (X k : Nat) : Prop := (∃ a, a < xM u ∧ X.testBit a = true ∧ k < xM u ∧ lnk u a k = true) ∨ ∃ j, j < xW u ∧ xRc u j < 10 ∧ X.testBit (xRc u j) = true ∧ xAb u j = k
theorem ons_bit (u : XS) (X k : Nat) : (ons u X).testBit k = true ↔ (X.testBit k = true ∨ onP u X k) ∧ (xL u).testBit k = true := by
  unfold ons onP
  rw [Nat.testBit_and, Bool.and_eq_true, fol_or (os2_eq u X), Nat.testBit_or, Bool.or_eq_true, folor_bit, fol_or (os1_eq u X), Nat.testBit_or, Bool.or_eq_true, folor_bit]
  refine and_congr ?_ Iff.rfl
  constructor
  · rintro ((h | ⟨a, h1, h2⟩) | ⟨j, h1, h2⟩)
    · exact Or.inl h
    · split at h2
      · rename_i h3
        rw [frO_bit, Bool.and_eq_true] at h2
        exact Or.inr (Or.inl ⟨a, h1, h3, of_decide_eq_true h2.1, h2.2⟩)
      · simp at h2
    · split at h2
      · rename_i h3
        rw [Nat.testBit_two_pow] at h2
        exact Or.inr (Or.inr ⟨j, h1, h3.1, h3.2, of_decide_eq_true h2⟩)
      · simp at h2
  · rintro (h | ⟨a, h1, h2, h3, h4⟩ | ⟨j, h1, h2, h3, h4⟩)
    · exact Or.inl (Or.inl h)
    · refine Or.inl (Or.inr ⟨a, h1, ?_⟩)
      rw [if_pos h2, frO_bit, h4]
      simpa using h3
    · refine Or.inr ⟨j, h1, ?_⟩
      rw [if_pos ⟨h2, h3⟩, Nat.testBit_two_pow]
      simpa using h4
theorem on2_bit (u : XS) (X k : Nat) : (on2 u X).testBit k = true ↔ (∃ a, a < xM u ∧ X.testBit a = true ∧ k < xM u ∧ lnk u a k = true) ∨ ∃ j, j < xW u ∧ xRc u j < 10 ∧ X.testBit (xRc u j) = true ∧ (xL u).testBit (xAb u j) = true ∧ xAb u j = k := by
  unfold on2
  rw [fol_or (mo2_eq u X), Nat.testBit_or, Bool.or_eq_true, folor_bit, fol_or (mo1_eq u X), Nat.zero_or, folor_bit]
  constructor
  · rintro (⟨a, h1, h2⟩ | ⟨j, h1, h2⟩)
    · split at h2
      · rename_i h3
        rw [frO_bit, Bool.and_eq_true] at h2
        exact Or.inl ⟨a, h1, h3, of_decide_eq_true h2.1, h2.2⟩
      · simp at h2
    · split at h2
      · rename_i h3
        rw [Nat.testBit_two_pow] at h2
        exact Or.inr ⟨j, h1, h3.1, h3.2.1, h3.2.2, of_decide_eq_true h2⟩
      · simp at h2
  · rintro (⟨a, h1, h2, h3, h4⟩ | ⟨j, h1, h2, h3, h4, h5⟩)
    · refine Or.inl ⟨a, h1, ?_⟩
      rw [if_pos h2, frO_bit, h4]
      simpa using h3
    · refine Or.inr ⟨j, h1, ?_⟩
      rw [if_pos ⟨h2, h3, h4⟩, Nat.testBit_two_pow]
      simpa using h5
theorem ons_on2 {T : Nat} {u : XS} (inv : Inv T u) {X : Nat} (hX : sub X (xL u)) : X ||| on2 u X = ons u X := by
  have hM := inv.1.1
  apply nat_ext
  intro k
  rw [Nat.testBit_or, Bool.or_eq_true, on2_bit, ons_bit]
  unfold onP
  constructor
  · rintro (h | ⟨a, h1, h2, h3, h4⟩ | ⟨j, h1, h2, h3, h4, h5⟩)
    · exact ⟨Or.inl h, hX k h⟩
    · exact ⟨Or.inr (Or.inl ⟨a, h1, h2, h3, h4⟩), (Inv_lk inv (by omega) (by omega) h4).2.1⟩
    · exact ⟨Or.inr (Or.inr ⟨j, h1, h2, h3, h5⟩), by rw [← h5]; exact h4⟩
  · rintro ⟨h | ⟨a, h1, h2, h3, h4⟩ | ⟨j, h1, h2, h3, h5⟩, hl⟩
    · exact Or.inl h
    · exact Or.inr (Or.inl ⟨a, h1, h2, h3, h4⟩)
    · exact Or.inr (Or.inr ⟨j, h1, h2, h3, by rw [h5]; exact hl, h5⟩)
theorem ons_live (u : XS) (X : Nat) : sub (ons u X) (xL u) := fun k hk => ((ons_bit u X k).mp hk).2
theorem ons_inc {u : XS} {X : Nat} (hX : sub X (xL u)) : sub X (ons u X) := fun k hk => (ons_bit u X k).mpr ⟨Or.inl hk, hX k hk⟩
/-- the sets as the steps go, within what lives -/
def rk (u : XS) (k : Nat) : Nat := rep (ons u) k (xL u &&& xR u)
theorem rk_live (u : XS) (k : Nat) : sub (rk u k) (xL u) := by
  unfold rk
  cases k with
  | zero => exact and_on _ _
  | succ k => exact ons_live u _
theorem rk_s (u : XS) (k : Nat) : rk u (k + 1) = ons u (rk u k) := rfl
theorem rk_lt {u : XS} (hL : xL u < 1024) (k : Nat) : rk u k < 1024 := sub_lt (rk_live u k) hL
theorem rk_inc (u : XS) (k : Nat) : sub (rk u k) (rk u (k + 1)) := ons_inc (rk_live u k)
theorem rk_mono (u : XS) {m n : Nat} (h : m ≤ n) : sub (rk u m) (rk u n) := by
  induction n with
  | zero => rw [show m = 0 by omega]; exact sub_refl _
  | succ n ih =>
    by_cases e : m = n + 1
    · rw [e]; exact sub_refl _
    · exact sub_trans (ih (by omega)) (rk_inc u n)
theorem rk_stay {u : XS} {k : Nat} (h : rk u (k + 1) = rk u k) : ∀ n, k ≤ n → rk u n = rk u k := by
  intro n hn
  induction n with
  | zero => rw [show k = 0 by omega]
  | succ n ih =>
    by_cases e : k = n + 1
    · rw [e]
    · rw [rk_s, ih (by omega), ← rk_s, h]
theorem rk_0 {u : XS} (h : rk u 0 = 0) (n : Nat) : rk u n = 0 := by
  have h1 : rk u 1 = rk u 0 := by
    rw [rk_s, h]
    apply Nat.eq_of_testBit_eq
    intro k
    rw [Nat.zero_testBit]
    cases hk : (ons u 0).testBit k with
    | false => rfl
    | true =>
      have := (ons_bit u 0 k).mp hk
      unfold onP at this
      simp at this
  rw [rk_stay h1 n (Nat.zero_le n), h]
theorem rk_grow {u : XS} (hL : xL u < 1024) : ∀ n, rk u (n + 1) = rk u n ∨ n + 2 ≤ cn (rk u (n + 1)) := by
  intro n
  induction n with
  | zero =>
    by_cases e : rk u 1 = rk u 0
    · exact Or.inl e
    · right
      have h1 := cn_lt (rk_lt hL 1) (rk_inc u 0) (Ne.symm e)
      by_cases e0 : rk u 0 = 0
      · exact absurd (by rw [rk_0 e0, e0]) e
      · have h2 := cn_lt (X := 0) (rk_lt hL 0) (fun k hk => by simp at hk) (Ne.symm e0)
        show 0 + 2 ≤ cn (rk u 1)
        omega
  | succ n ih =>
    by_cases e : rk u (n + 1 + 1) = rk u (n + 1)
    · exact Or.inl e
    · right
      rcases ih with h | h
      · exact absurd (by rw [rk_s, h, ← rk_s, h]) e
      · have h1 := cn_lt (rk_lt hL (n + 1 + 1)) (rk_inc u (n + 1)) (Ne.symm e)
        omega
theorem rk_9 {u : XS} (hL : xL u < 1024) : rk u 10 = rk u 9 := by
  rcases rk_grow hL 9 with h | h
  · exact h
  · have := cn_le (rk u 10)
    exact absurd h (by show ¬ 9 + 2 ≤ cn (rk u 10); omega)
theorem rk_end {u : XS} (hL : xL u < 1024) {n : Nat} (h : 9 ≤ n) : rk u n = rk u 9 := rk_stay (rk_9 hL) n h
theorem rk_fix {u : XS} (hL : xL u < 1024) {k : Nat} (h : rk u (k + 1) = rk u k) : rk u k = reaX u := by
  show rk u k = rk u 10
  rcases Nat.le_total k 10 with q | q
  · exact (rk_stay h 10 q).symm
  · rw [rk_end hL (n := k) (by omega), rk_end hL (n := 10) (by omega)]
theorem far_lt {u : XS} (hL : xL u < 1024) {b k : Nat} (h : ∀ j, j < k → farP u b j = false) (hk : farP u b k = true) : k < 10 := by
  rcases Nat.lt_or_ge k 10 with q | q
  · exact q
  · have h1 := h 9 (by omega)
    unfold farP at h1 hk
    have e : rk u k = rk u 9 := rk_end hL (by omega)
    unfold rk at e
    rw [e, h1] at hk
    exact absurd hk (by decide)
theorem far_no {u : XS} {b k : Nat} (h : ∀ j, j < k → farP u b j = false) (hk : farP u b k = false) (hf : rk u (k + 1) = rk u k) : ∀ j, farP u b j = false := by
  intro j
  rcases Nat.lt_or_ge j k with q | q
  · exact h j q
  · unfold farP at hk ⊢
    have e := rk_stay hf j q
    unfold rk at e
    rw [e, hk]
theorem rea_live (u : XS) : sub (reaX u) (xL u) := rk_live u 10
/-- what a loop to an end has: its set and what it had before -/
def rkI (u : XS) (k its : Nat) (hd : Int32) : Prop := its = rk u k ∧ ∀ h, h < 1024 → hd = nI h → its = ons u h ∨ its ≠ h
theorem rkI_0 (u : XS) : rkI u 0 (xL u &&& xR u) (-1) := ⟨rfl, fun h hh e => absurd rfl (m1_no (x := h) h hh e)⟩
theorem rkI_s {T : Nat} {u : XS} (inv : Inv T u) {k its : Nat} {hd : Int32} (h : rkI u k its hd) : rkI u (k + 1) (its ||| on2 u its) (nI its) := by
  have hl : sub its (xL u) := by rw [h.1]; exact rk_live u k
  have hlt : its < 1024 := sub_lt hl inv.1.2.2.2.2.1
  rw [ons_on2 inv hl]
  exact ⟨by rw [h.1]; rfl, fun x hx e => Or.inl (by rw [(nI_eqL (by omega) (by omega)).mp e])⟩
theorem rkI_e {T : Nat} {u : XS} (inv : Inv T u) {k its : Nat} {hd : Int32} (h : rkI u k its hd) (c : hd = nI its) : rk u (k + 1) = rk u k := by
  have hlt : its < 1024 := by rw [h.1]; exact rk_lt inv.1.2.2.2.2.1 k
  rcases h.2 its hlt c with q | q
  · rw [rk_s, ← h.1]; exact q.symm
  · exact absurd rfl q
theorem rkI_lt {T : Nat} {u : XS} (inv : Inv T u) {k its : Nat} {hd : Int32} (h : rkI u k its hd) : its < 1024 := by rw [h.1]; exact rk_lt inv.1.2.2.2.2.1 k
theorem rkI_m {T : Nat} {u : XS} (inv : Inv T u) {k its m : Nat} {hd : Int32} (h : rkI u k its hd) (hm : chm its hd < m + 1) (c : ¬ hd = nI its) : chm (its ||| on2 u its) (nI its) < m := by
  have hl : sub its (xL u) := by rw [h.1]; exact rk_live u k
  rw [ons_on2 inv hl]
  exact chm_dec (F := ons u) ⟨ons_inc hl, sub_lt (ons_live u its) inv.1.2.2.2.2.1⟩ hm c
/-! COUNTS -/
theorem cnt_add {p q : Nat → Bool} (n : Nat) (h : ∀ k, k < n → ¬ (p k = true ∧ q k = true)) : cnt (fun k => p k || q k) n = cnt p n + cnt q n := by
  induction n with
  | zero => rfl
  | succ n ih =>
    have ih := ih (fun k hk => h k (by omega))
    have hn := h n (by omega)
    show cnt (fun k => p k || q k) n + (if (p n || q n) then 1 else 0) = (cnt p n + if p n then 1 else 0) + (cnt q n + if q n then 1 else 0)
    rw [ih]
    cases h1 : p n <;> cases h2 : q n <;> simp_all <;> omega
theorem cnt_cong {p q : Nat → Bool} {n : Nat} (h : ∀ k, k < n → p k = q k) : cnt p n = cnt q n := by
  induction n with
  | zero => rfl
  | succ n ih => show cnt p n + _ = cnt q n + _; rw [ih (fun k hk => h k (by omega)), h n (by omega)]
theorem cnt_low : ∀ M, M < 11 → cnt (fun k => decide (k < M)) 10 = M := by decide
theorem cn_or {X Y : Nat} (h : ∀ k, ¬ (X.testBit k = true ∧ Y.testBit k = true)) : cn (X ||| Y) = cn X + cn Y := by
  unfold cn
  rw [← cnt_add 10 (fun k _ => h k)]
  exact cnt_cong (fun k _ => Nat.testBit_or ..)
theorem cn_gn {T : Nat} {u : XS} (inv : Inv T u) : cn (gn u) + cn (xL u) = xM u := by
  have hM := inv.1.1
  rw [← cn_or (fun k => by rw [gn_bit]; simp)]
  unfold cn
  rw [← cnt_low (xM u) (by omega)]
  refine cnt_cong (fun k _ => ?_)
  rw [Nat.testBit_or, gn_bit]
  cases h : (xL u).testBit k with
  | false => simp
  | true => simp [Inv_lM inv h]
theorem cn_dif {X Y : Nat} (h : sub Y X) : cn (dif X Y) + cn Y = cn X := by
  rw [← cn_or (fun k => by rw [dif_bit]; simp)]
  congr 1
  apply nat_ext
  intro k
  rw [Nat.testBit_or, dif_bit]
  cases h1 : Y.testBit k with
  | false => simp
  | true => simp [h k h1]
theorem man_0 {T : Nat} {u : XS} (inv : Inv T u) : nI (xM u) - nI (cn (gn u)) = nI (cn (xL u)) := by
  have := cn_gn inv
  rw [pk_sub (by omega), show xM u - cn (gn u) = cn (xL u) by omega]
theorem man_5 {T : Nat} {u : XS} (inv : Inv T u) : nI (xM u) - nI (cn (gn u ||| reaX u)) = nI (cn (dif (xL u) (reaX u))) := by
  have h1 := cn_gn inv
  have h2 := cn_dif (rea_live u)
  have h3 : cn (gn u ||| reaX u) = cn (gn u) + cn (reaX u) := cn_or (fun k => by
    rintro ⟨h4, h5⟩
    have h6 := rea_live u k h5
    rw [gn_bit, h6] at h4
    simp at h4)
  rw [pk_sub (by omega), show xM u - cn (gn u ||| reaX u) = cn (dif (xL u) (reaX u)) by omega]
theorem man_2 (u : XS) : cnt (fun x => !decide (xLi u x = -9) && (decide (xLi u x = 0) == true)) 100 = cnt (fun x => decide (xLi u x = 0)) 100 := by
  refine cnt_cong (fun k _ => ?_)
  by_cases h : xLi u k = 0
  · rw [h]; decide
  · simp [h]
theorem man_3 {T : Nat} {u : XS} (inv : Inv T u) : cnt (fun x => !decide (xLi u x = -9) && (decide (xLi u x = 0) == false)) 100 = cnt (fun x => !decide (xLi u x ≤ 0)) 100 := by
  refine cnt_cong (fun k hk => ?_)
  have hk1 : xLi u k = xLi u (k / 10 * 10 + k % 10) := by rw [show k / 10 * 10 + k % 10 = k by omega]
  by_cases h : xLi u k = -9
  · rw [h]; decide
  · by_cases h0 : xLi u k = 0
    · rw [h0]; decide
    · have hp : ¬ xLi u k ≤ 0 := fun q => h0 (by rw [hk1] at h q ⊢; exact Inv_le0 inv (by omega) (by omega) h q)
      simp [h, h0, hp]
theorem Inv_grw {T : Nat} {u : XS} (inv : Inv T u) (st yo : Nat) : Inv T (grw u st yo) :=
  ⟨inv.1, inv.2.1, inv.2.2.1, inv.2.2.2.1, inv.2.2.2.2.1, inv.2.2.2.2.2.1, fun k => ast_9 inv.2.2.2.2.2.2.1 _ k, inv.2.2.2.2.2.2.2⟩
theorem lh_cnt0 {p : Nat → Bool} {n acc : Nat} (h : acc = cnt p n) (c : p n = false) : acc + 0 = cnt p (n + 1) := lh_cntf h c
theorem wi_t {v lo hi : Int32} (c : wi v lo hi = true) : ¬ v < lo ∧ v ≤ hi := by
  unfold wi at c
  have c := of_decide_eq_true c
  exact ⟨c.1, Int32.not_lt.mp c.2⟩
theorem wi_f {v lo hi : Int32} (c : wi v lo hi = false) : v < lo ∨ ¬ v ≤ hi := by
  unfold wi at c
  have c := of_decide_eq_false c
  by_cases h : v < lo
  · exact Or.inl h
  · exact Or.inr (fun q => c ⟨h, Int32.not_lt.mpr q⟩)
theorem wi09 {v : Int32} (c : wi v (nI 0) (nI 9) = true) : ¬ v < 0 ∧ v ≤ nI 9 := wi_t c
theorem wi09f {v : Int32} (c : wi v (nI 0) (nI 9) = false) : v < 0 ∨ ¬ v ≤ nI 9 := wi_f c
theorem wi01 {v : Int32} (c : wi v (nI 0) (nI 1) = true) : ¬ v < 0 ∧ v ≤ nI 1 := wi_t c
theorem wi01f {v : Int32} (c : wi v (nI 0) (nI 1) = false) : v < 0 ∨ ¬ v ≤ nI 1 := wi_f c
theorem old_in {u : XS} {h : Nat} {v : Int32} (c : isHo (nI h) = true) (e : (nI h).toNatClampNeg = h) (w : ¬ v < 0 ∧ v ≤ nI 9) : nI (mk (oldP u h v) (xM u)) = oldR u (nI h) v := by
  unfold oldR
  rw [if_pos c, if_neg w.1, if_pos w.2, e]
theorem old_out {u : XS} {h : Nat} {v : Int32} (c : isHo (nI h) = true) (w : v < 0 ∨ ¬ v ≤ nI 9) : -2 = oldR u (nI h) v := by
  unfold oldR
  rw [if_pos c]
  rcases w with w | w
  · rw [if_pos w]
  · split
    · rfl
    · first | rfl | rw [if_neg w]
theorem bac_out {u : XS} {b : Nat} {w : Int32} (c : isObj u (nI b) = true) (w9 : w < 0 ∨ ¬ w ≤ nI 1) : -2 = bacR u (nI b) w := by
  unfold bacR
  rw [if_pos c]
  rcases w9 with q | q
  · rw [if_pos q]
  · split
    · rfl
    · first | rfl | rw [if_neg q]
theorem old_t {u : XS} {h k : Nat} {v : Int32} (c : (onH u h).testBit k = true) (c2 : ¬ xAg u k < v) : oldP u h v k = true := by
  unfold oldP lvo
  have := (onH_bit u h k).mp c
  simp [this.2.1, this.2.2, c2]
theorem old_a {u : XS} {h k : Nat} {v : Int32} (c : (onH u h).testBit k = true) (c2 : xAg u k < v) : oldP u h v k = false := by
  unfold oldP
  simp [c2]
theorem old_f {u : XS} {h k : Nat} {v : Int32} (hk : k < xM u) (c : (onH u h).testBit k = false) : oldP u h v k = false := by
  unfold oldP
  unfold onH at c
  rw [mk_bit, decide_eq_true hk, Bool.true_and] at c
  simp [c]

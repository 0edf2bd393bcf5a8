/-! LETTERS THAT ARRIVE, SUMS, STEPS, COLLECTING; and that the state stays in bounds -/
theorem kd_lt (u : XS) (k : Nat) : kd u k < 2147483648 := by unfold kd; split <;> omega
theorem kd_0 {u : XS} {k : Nat} (h : kd u k = 0) : xRc u k < 10 := by
  unfold kd at h
  split at h
  · assumption
  · exact absurd h (by decide)
theorem kd_1 {u : XS} {k : Nat} (h : ¬ kd u k = 0) : ¬ xRc u k < 10 := by
  unfold kd at h
  split at h
  · exact absurd rfl h
  · assumption
theorem goT_lt {u : XS} (h : ∀ k, xHo u k < 4) (k : Nat) : goT u k < 4 := by unfold goT; split <;> exact h _
def inL (u : XS) (b : Nat) : Int32 := sum (fun a => if lnk u a b then xLi u (a * 10 + b) else 0) (xM u)
def inE (u : XS) (b : Nat) (al : Bool) : Int32 := sum (fun k => if xAb u k = b then (if al then xLo u k else if (xD u).testBit (goT u k) then 0 else xLo u k) else 0) (xW u)
def alb (p : Nat → Bool) : Nat → Bool
  | 0 => true
  | n + 1 => alb p n && p n
theorem alb_t {p : Nat → Bool} {n : Nat} (h : alb p n = true) (c : p n = true) : alb p (n + 1) = true := by unfold alb; rw [h, c]; rfl
theorem alb_f {p : Nat → Bool} {n k : Nat} (hk : k < n) (h : p k = false) : alb p n = false := by
  induction n with
  | zero => exact absurd hk (Nat.not_lt_zero k)
  | succ n ih =>
    unfold alb
    by_cases e : k = n
    · subst e; rw [h, Bool.and_false]
    · rw [ih (by omega), Bool.false_and]
def balP (u : XS) (b : Nat) : Bool := !(xL u).testBit b || decide (xOu u b = inL u b + inE u b true)
def bal (u : XS) : Bool := alb (balP u) (xM u)
def os1 (u : XS) (X a acc : Nat) : Nat := if X.testBit a then acc ||| frO u a else acc
def os2 (u : XS) (X k acc : Nat) : Nat := if xRc u k < 10 then (if X.testBit (xRc u k) then acc ||| 2 ^ xAb u k else acc) else acc
def ons (u : XS) (X : Nat) : Nat := fol (os2 u X) (xW u) (fol (os1 u X) (xM u) X) &&& xL u
def gra (u : XS) (b a : Nat) (w : Int32) : XS :=
  if (xD u).testBit (xHo u a) then u else if (xL u).testBit b then
    (if nbr u a b then (if (xL u).testBit a then adL (sOu u (upd (xOu u) b (xOu u b - w))) a b (nI 0) else sOu u (upd (xOu u) b (xOu u b - w)))
     else (if (xL u).testBit a then adL u a b w else app u b 10 w))
  else u
def arr (u : XS) (k : Nat) : XS :=
  if xRc u k < 10 then gra (tak u k) (xAb u k) (xRc u k) (xLo u k)
  else if (xL u).testBit (xAb u k) then sOu (tak u k) (upd (xOu u) (xAb u k) (xOu u (xAb u k) - xLo u k)) else tak u k
def dst (u : XS) : XS := if xW u = 0 then u else arr u 0
def dlv (u : XS) : XS := rep dst 300 u
theorem dst_end {u : XS} {n : Nat} (h : xW (rep dst n u) = 0) : ∀ m, n ≤ m → rep dst m u = rep dst n u := by
  intro m hm
  induction m with
  | zero => rw [show n = 0 by omega]
  | succ m ih =>
    by_cases e : n = m + 1
    · rw [e]
    · show dst (rep dst m u) = _
      rw [ih (by omega)]
      show (if xW (rep dst n u) = 0 then rep dst n u else arr (rep dst n u) 0) = _
      rw [if_pos h]
theorem okB_same {u t : XS} (h : okB u) (h1 : xM t = xM u) (h2 : xW t ≤ xW u) (h3 : xHo t = xHo u) (h4 : ∀ k, xAb t k < 10) (h5 : xL t = xL u) (h6 : xR t = xR u) (h7 : xD t = xD u) : okB t := by
  obtain ⟨a1, a2, a3, a4, a5, a6, a7⟩ := h
  exact ⟨by rw [h1]; exact a1, by omega, by rw [h3]; exact a3, h4, by rw [h5]; exact a5, by rw [h6]; exact a6, by rw [h7]; exact a7⟩
theorem okB_app {u : XS} (h : okB u) {b a : Nat} {w : Int32} (hb : b < 10) (hW : xW u < 150) : okB (app u b a w) := by
  obtain ⟨a1, a2, a3, a4, a5, a6, a7⟩ := h
  refine ⟨a1, ?_, a3, fun k => ?_, a5, a6, a7⟩
  · show xW u + 1 ≤ 150; omega
  · show va_up (xAb u) (xW u) b k < 10
    unfold va_up; split
    · exact hb
    · exact a4 k
theorem okB_tak {u : XS} (h : okB u) (k : Nat) : okB (tak u k) := by
  refine okB_same h rfl ?_ rfl (fun j => ?_) rfl rfl rfl
  · show xW u - 1 ≤ xW u; omega
  · show va_cpy (xAb u) (xAb u) _ _ _ j < 10
    unfold va_cpy; split <;> exact h.2.2.2.1 _
theorem okB_adL {u : XS} (h : okB u) (a b : Nat) (w : Int32) : okB (adL u a b w) := okB_same h rfl (Nat.le_refl _) rfl h.2.2.2.1 rfl rfl rfl
theorem okB_sOu {u : XS} (h : okB u) (f : Nat → Int32) : okB (sOu u f) := h
theorem okB_gra {u : XS} (h : okB u) {b a : Nat} {w : Int32} (hb : b < 10) (hW : xW u < 150) : okB (gra u b a w) := by
  unfold gra
  split
  · exact h
  · split
    · split
      · split
        · exact okB_adL (okB_sOu h _) _ _ _
        · exact okB_sOu h _
      · split
        · exact okB_adL h _ _ _
        · exact okB_app h hb hW
    · exact h
theorem okB_arr {u : XS} (h : okB u) {k : Nat} (hk : k < xW u) : okB (arr u k) := by
  have hW := h.2.1
  unfold arr
  split
  · exact okB_gra (okB_tak h k) (h.2.2.2.1 k) (show xW u - 1 < 150 by omega)
  · split
    · exact okB_sOu (okB_tak h k) _
    · exact okB_tak h k
theorem okB_dst {u : XS} (h : okB u) : okB (dst u) := by
  unfold dst
  split
  · exact h
  · exact okB_arr h (by omega)
theorem okB_rep {u : XS} (h : okB u) (n : Nat) : okB (rep dst n u) := by
  induction n with
  | zero => exact h
  | succ n ih => exact okB_dst ih
theorem okB_grw {u : XS} (h : okB u) (st yo : Nat) : okB (grw u st yo) := h
theorem fol_inv {α : Type} {f : Nat → α → α} (P : α → Prop) {n : Nat} (h : ∀ i t, i < n → P t → P (f i t)) {t : α} (ht : P t) : P (fol f n t) := by
  induction n with
  | zero => exact ht
  | succ n ih => exact h n _ (by omega) (ih (fun i t hi => h i t (by omega)))
/-- what a sending of returns leaves as it was -/
def sroK (u t : XS) : Prop := xM t = xM u ∧ xL t = xL u ∧ xR t = xR u ∧ xD t = xD u ∧ xF t = xF u ∧ xHo t = xHo u ∧ xOu t = xOu u ∧ xAg t = xAg u ∧ xLi t = xLi u ∧ xW u ≤ xW t ∧ ((∀ k, xAb u k < 10) → ∀ k, xAb t k < 10)
theorem sroK_refl (u : XS) : sroK u u := ⟨rfl, rfl, rfl, rfl, rfl, rfl, rfl, rfl, rfl, Nat.le_refl _, fun h => h⟩
theorem sroK_step {u t : XS} (X a b : Nat) (hb : b < 10) (h : sroK u t) : sroK u (sstep X a b t) := by
  unfold sstep
  split
  · split
    · exact h
    · split
      · exact h
      · obtain ⟨h1, h2, h3, h4, h5, h6, h7, h8, h9, h10, h11⟩ := h
        refine ⟨h1, h2, h3, h4, h5, h6, h7, h8, h9, ?_, fun hu k => ?_⟩
        · show xW u ≤ xW t + 1; omega
        · show va_up (xAb t) (xW t) b k < 10
          unfold va_up; split
          · exact hb
          · exact h11 hu k
  · exact h
theorem sroK_row {u t : XS} (X a n : Nat) (hn : n ≤ 10) (h : sroK u t) : sroK u (srow X a n t) := fol_inv (sroK u) (fun b t hb h => sroK_step X a b (by omega) h) h
theorem sroK_all {u : XS} (X : Nat) (hM : xM u ≤ 10) : sroK u (sro u X) := fol_inv (sroK u) (fun a t _ h => sroK_row X a (xM u) hM h) (sroK_refl u)
theorem sro_W {u : XS} {X : Nat} (hM : xM u ≤ 10) : xW (sro u X) ≤ xW u + 9 * cn X := by
  have h1 := sros_W X (xM u) (xM u) hM (Nat.le_refl _) u
  have h2 : cnt (fun k => X.testBit k) (xM u) ≤ cn X := cnt_mon _ hM
  unfold sro
  omega
theorem okB_sro {u : XS} (h : okB u) {X : Nat} (hW : xW u + 9 * cn X ≤ 150) : okB (sro u X) := by
  obtain ⟨a1, a2, a3, a4, a5, a6, a7⟩ := h
  obtain ⟨h1, h2, h3, h4, h5, h6, h7, h8, h9, h10, h11⟩ := sroK_all (u := u) X a1
  have := sro_W (u := u) (X := X) a1
  exact ⟨by rw [h1]; exact a1, by omega, by rw [h6]; exact a3, h11 a4, by rw [h2]; exact a5, by rw [h3]; exact a6, by rw [h4]; exact a7⟩
theorem okB_bgo {u : XS} (h : okB u) (X : Nat) : okB (bgo u X) := by
  obtain ⟨a1, a2, a3, a4, a5, a6, a7⟩ := h
  exact ⟨a1, a2, a3, a4, dif_lt a5, a6, a7⟩
def colL (u : XS) (h : Nat) : Nat := dif (onH u h) (stay u h)
def colG (u : XS) (h : Nat) : XS := grw u (stay u h) (clo (nearR u) (onH u h &&& xR u))
def colS (u : XS) (h : Nat) : XS := bgo (sro (colG u h) (colL u h)) (colL u h)
theorem onH_sub (u : XS) (h : Nat) : sub (onH u h) (xL u) := fun k hk => by
  unfold onH at hk
  rw [mk_bit, Bool.and_eq_true] at hk
  have := hk.2
  unfold lvo at this
  rw [Bool.and_eq_true] at this
  exact this.1
theorem colL_sub (u : XS) (h : Nat) : sub (colL u h) (xL u) := sub_trans (dif_sub _ _) (onH_sub u h)
theorem colL_W {u : XS} {h : Nat} (hW : xW u + 9 * cn (xL u) ≤ 150) : xW u + 9 * cn (colL u h) ≤ 150 := by
  have := cn_sub (colL_sub u h)
  omega
theorem colL_lt {u : XS} {h : Nat} (hM : xM u ≤ 10) : colL u h < 1024 := dif_lt (onH_lt hM h)
theorem okB_colS {u : XS} (ok : okB u) {h : Nat} (hW : xW u + 9 * cn (xL u) ≤ 150) : okB (colS u h) :=
  okB_bgo (okB_sro (u := colG u h) (okB_grw ok _ _) (colL_W hW)) _
theorem isHo_ex {h : Int32} (c : isHo h = true) : ∃ k, k < 4 ∧ h = nI k := by
  unfold isHo at c
  have c := of_decide_eq_true c
  obtain ⟨j, hj, rfl⟩ := nI_of c.1
  exact ⟨j, (nI_ltI hj (by decide)).mp c.2, rfl⟩
theorem isObj_ex {u : XS} (hM : xM u ≤ 10) {a : Int32} (c : isObj u a = true) : ∃ k, k < xM u ∧ a = nI k := by
  unfold isObj at c
  have c := of_decide_eq_true c
  obtain ⟨j, hj, rfl⟩ := nI_of c.1
  exact ⟨j, (nI_ltI hj (by omega)).mp c.2, rfl⟩
theorem isLe_ex {u : XS} (hW : xW u ≤ 150) {a : Int32} (c : isLe u a = true) : ∃ k, k < xW u ∧ a = nI k := by
  unfold isLe at c
  have c := of_decide_eq_true c
  obtain ⟨j, hj, rfl⟩ := nI_of c.1
  exact ⟨j, (nI_ltI hj (by omega)).mp c.2, rfl⟩

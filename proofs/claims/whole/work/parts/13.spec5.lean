/-! THE REFERENCE'S OWN WORDS -/
theorem gn_lt {u : XS} (hM : xM u ≤ 10) : gn u < 1024 := by
  refine bit_lt (n := 10) (fun k hk => ?_)
  rw [gn_bit, Bool.and_eq_true] at hk
  have := of_decide_eq_true hk.1
  omega
theorem gn_lt31 {u : XS} (hM : xM u ≤ 10) : gn u < 2147483648 := Nat.lt_trans (gn_lt hM) (by decide)
theorem gnT {u : XS} {k : Nat} (hk : k < xM u) (c : (gn u).testBit k = true) : (xL u).testBit k = false := by
  rw [gn_bit, Bool.and_eq_true] at c
  simpa using c.2
theorem gnF {u : XS} {k : Nat} (hk : k < xM u) (c : (gn u).testBit k = false) : (xL u).testBit k = true := by
  rw [gn_bit, decide_eq_true hk, Bool.true_and] at c
  simpa using c
def wi (v lo hi : Int32) : Bool := decide (¬ v < lo ∧ ¬ hi < v)
theorem wi_iff {v : Int32} {n : Nat} (hn : n < 2147483648) : wi v (nI 0) (nI n - nI 1) = decide (¬ v < 0 ∧ v < nI n) := by
  unfold wi
  apply decide_eq_decide.mpr
  have h1 : (nI n).toInt = n := nI_toInt (by omega)
  have h2 : (nI 1).toInt = 1 := nI_toInt (by omega)
  have h3 : (nI n - nI 1).toInt = (n : Int) - 1 := by rw [fb_subI (by omega) (by omega), h1, h2]
  rw [show nI 0 = 0 from rfl, Int32.lt_iff_toInt_lt, Int32.lt_iff_toInt_lt, Int32.lt_iff_toInt_lt, h1, h3]
  constructor <;> intro h <;> refine ⟨h.1, ?_⟩ <;> have := h.2 <;> omega
theorem isHo_wi (h : Int32) : wi h (nI 0) (nI 3) = isHo h := wi_iff (n := 4) (by decide)
theorem isObj_wi {u : XS} (hM : xM u ≤ 10) (a : Int32) : wi a (nI 0) (nI (xM u) - nI 1) = isObj u a := wi_iff (by omega)
theorem isLe_wi {u : XS} (hW : xW u ≤ 150) (a : Int32) : wi a (nI 0) (nI (xW u) - nI 1) = isLe u a := wi_iff (by omega)
theorem lh_shr1 {s : Nat} (h : s < 2147483648) : nI s >>> (nI 1 &&& 31) = nI (s / 2) := by
  rw [pk_shrN (by omega) _ 1 (lh_sh0 1 (by decide))]
theorem szo_step {x j n : Nat} (h : n = cnt (fun k => x.testBit k) j) : n + (x / 2 ^ j &&& 1) = cnt (fun k => x.testBit k) (j + 1) := by
  show _ = cnt (fun k => x.testBit k) j + (if x.testBit j then 1 else 0)
  rw [h, Nat.testBit_eq_decide_div_mod_eq, show x / 2 ^ j &&& 1 = x / 2 ^ j % 2 from Nat.and_one_is_mod _]
  rcases Nat.mod_two_eq_zero_or_one (x / 2 ^ j) with q | q <;> rw [q] <;> simp
theorem szo_half (x j : Nat) : x / 2 ^ j / 2 = x / 2 ^ (j + 1) := by rw [Nat.pow_succ, Nat.div_div_eq_div_mul]
theorem cnt_ext {p : Nat → Bool} {m : Nat} : ∀ n, m ≤ n → (∀ k, m ≤ k → k < n → p k = false) → cnt p n = cnt p m
  | 0, h, _ => by rw [show m = 0 by omega]
  | n + 1, h, hp => by
    by_cases e : m = n + 1
    · rw [e]
    · show cnt p n + (if p n then 1 else 0) = _
      rw [hp n (by omega) (by omega), cnt_ext n (by omega) (fun k h1 h2 => hp k h1 (by omega))]
      simp
theorem szo_end {x j : Nat} (hx : x < 1024) (h : x / 2 ^ j = 0) : cnt (fun k => x.testBit k) j = cn x := by
  have hz : ∀ k, j ≤ k → x.testBit k = false := fun k hk => by
    have : x < 2 ^ j := by
      rcases Nat.div_eq_zero_iff.mp h with q | q
      · exact absurd q (Nat.pos_iff_ne_zero.mp (Nat.two_pow_pos j))
      · exact q
    exact Nat.testBit_lt_two_pow (Nat.lt_of_lt_of_le this (Nat.pow_le_pow_right (by decide) hk))
  unfold cn
  rcases Nat.le_total j 10 with q | q
  · exact (cnt_ext 10 q (fun k h1 _ => hz k h1)).symm
  · refine cnt_ext j q (fun k h1 _ => ?_)
    exact Nat.testBit_lt_two_pow (Nat.lt_of_lt_of_le hx (Nat.le_trans (by decide : 1024 ≤ 2 ^ 10) (Nat.pow_le_pow_right (by decide) h1)))
def grb (u : XS) (b a : Nat) (w : Int32) : XS :=
  if (xL u).testBit a then (if nbr u a b then adL (sOu u (upd (xOu u) b (xOu u b - w))) a b (nI 0) else adL u a b w)
  else (if nbr u a b then sOu u (upd (xOu u) b (xOu u b - w)) else app u b 10 w)
def arv (u : XS) (b a : Nat) (w : Int32) : XS :=
  if (xL u).testBit b then (if a < 10 then (if (xD u).testBit (xHo u a) then u else grb u b a w) else sOu u (upd (xOu u) b (xOu u b - w))) else u
theorem arv_arr (u : XS) (k : Nat) : arv (tak u k) (xAb u k) (xRc u k) (xLo u k) = arr u k := by
  unfold arv arr gra grb
  by_cases h : xRc u k < 10
  · rw [if_pos h, if_pos h]
    have e1 : xD (tak u k) = xD u := rfl
    cases h1 : (xL (tak u k)).testBit (xAb u k) <;> cases h2 : (xD (tak u k)).testBit (xHo (tak u k) (xRc u k)) <;> cases h3 : nbr (tak u k) (xRc u k) (xAb u k) <;> cases h4 : (xL (tak u k)).testBit (xRc u k) <;> simp
  · rw [if_neg h, if_neg h]
    rfl
theorem cpy_0 {α : Type} (f : Nat → α) (k : Nat) : va_cpy f f (k + 1) k 0 = f := by
  funext j; unfold va_cpy; rw [if_neg (by omega)]
theorem cpy_next {α : Type} (f : Nat → α) {k x : Nat} (h : k ≤ x) : va_cpy f f (k + 1) k (x - k) (x + 1) = f (x + 1) := by
  unfold va_cpy; rw [if_neg (by omega)]
theorem cpy_up {α : Type} (f : Nat → α) {k x : Nat} (h : k ≤ x) : va_up (va_cpy f f (k + 1) k (x - k)) x (va_cpy f f (k + 1) k (x - k) (x + 1)) = va_cpy f f (k + 1) k (x + 1 - k) := by
  rw [cpy_next f h]
  funext j
  unfold va_up va_cpy
  by_cases e : j = x
  · subst e
    rw [if_pos rfl, if_pos (by omega), show k + 1 + (j - k) = j + 1 by omega]
  · rw [if_neg e]
    by_cases h2 : k ≤ j ∧ j < k + (x - k)
    · rw [if_pos h2, if_pos (by omega)]
    · rw [if_neg h2, if_neg (by omega)]
/-- letters, drawn together as far as x -/
def tkp (u : XS) (k x : Nat) : XS := sW (sLo (sRc (sAb u (va_cpy (xAb u) (xAb u) (k + 1) k (x - k))) (va_cpy (xRc u) (xRc u) (k + 1) k (x - k))) (va_cpy (xLo u) (xLo u) (k + 1) k (x - k))) (xW u - 1)
theorem tkp_0 (u : XS) (k : Nat) : sW u (xW u - 1) = tkp u k k := by
  unfold tkp
  rw [Nat.sub_self, cpy_0, cpy_0, cpy_0]
theorem tkp_s {u : XS} {k x : Nat} (h : k ≤ x) : sLo (sRc (sAb (tkp u k x) (va_up (xAb (tkp u k x)) x (xAb (tkp u k x) (x + 1)))) (va_up (xRc (tkp u k x)) x (xRc (tkp u k x) (x + 1)))) (upd (xLo (tkp u k x)) x (xLo (tkp u k x) (x + 1))) = tkp u k (x + 1) := by
  unfold tkp
  rw [← cpy_up (xAb u) h, ← cpy_up (xRc u) h, ← cpy_up (xLo u) h]
  rfl
theorem tkp_e {u : XS} {k x : Nat} (h : k < xW u) (hx : x = xW u - 1) : tkp u k x = tak u k := by
  unfold tkp tak
  rw [hx, show xW u - 1 - k = xW u - k - 1 by omega]
def rtO (u : XS) (x : Nat) : Nat := mk (fun a => x.testBit a && (xR u).testBit a) (xM u)
theorem lh_omkt {p : Nat → Bool} {n Y acc : Nat} (h : acc = Y ||| mk p n) (c : p n = true) : acc ||| 2 ^ n = Y ||| mk p (n + 1) := by rw [mk_t c, h, Nat.or_assoc]
theorem lh_omk0 {p : Nat → Bool} {n Y acc : Nat} (h : acc = Y ||| mk p n) (c : p n = false) : acc ||| 0 = Y ||| mk p (n + 1) := by rw [mk_f c, h, Nat.or_zero]
/-- links from, within a set -/
def ledR (u : XS) (w : Nat) : Nat → Nat → Bool := fun a b => lnk u a b && w.testBit b && decide (a < xM u) && decide (b < xM u)
def ldst (u : XS) (w h a acc : Nat) : Nat := if h.testBit a then acc ||| (frO u a &&& w) else acc ||| 0
def ldF (u : XS) (w h : Nat) : Nat := fol (ldst u w h) (xM u) h
theorem fol_or {f : Nat → Nat → Nat} {g : Nat → Nat} (h : ∀ i X, f i X = X ||| g i) (n X : Nat) : fol f n X = X ||| fol (fun i Y => Y ||| g i) n 0 := by
  induction n with
  | zero => exact (Nat.or_zero X).symm
  | succ n ih =>
    show f n (fol f n X) = X ||| (fol (fun i Y => Y ||| g i) n 0 ||| g n)
    rw [h, ih, Nat.or_assoc]
theorem folor_bit {g : Nat → Nat} {n k : Nat} : (fol (fun i Y => Y ||| g i) n 0).testBit k = true ↔ ∃ i, i < n ∧ (g i).testBit k = true := by
  induction n with
  | zero => simp [fol]
  | succ n ih =>
    show (fol (fun i Y => Y ||| g i) n 0 ||| g n).testBit k = true ↔ _
    rw [Nat.testBit_or, Bool.or_eq_true, ih]
    constructor
    · rintro (⟨i, h1, h2⟩ | h)
      · exact ⟨i, by omega, h2⟩
      · exact ⟨n, by omega, h⟩
    · rintro ⟨i, h1, h2⟩
      by_cases e : i = n
      · subst e; exact Or.inr h2
      · exact Or.inl ⟨i, by omega, h2⟩
theorem ldst_eq (u : XS) (w h i X : Nat) : ldst u w h i X = X ||| (if h.testBit i then frO u i &&& w else 0) := by unfold ldst; split <;> rfl
theorem frO_bit (u : XS) (a k : Nat) : (frO u a).testBit k = (decide (k < xM u) && lnk u a k) := mk_bit _ _ _
theorem toO_bit (u : XS) (b k : Nat) : (toO u b).testBit k = (decide (k < xM u) && lnk u k b) := mk_bit _ _ _
theorem ldF_bit {u : XS} {w h k : Nat} : (ldF u w h).testBit k = true ↔ h.testBit k = true ∨ ∃ a, a < xM u ∧ h.testBit a = true ∧ k < xM u ∧ lnk u a k = true ∧ w.testBit k = true := by
  unfold ldF
  rw [fol_or (ldst_eq u w h), Nat.testBit_or, Bool.or_eq_true, folor_bit]
  refine or_congr Iff.rfl ⟨?_, ?_⟩
  · rintro ⟨i, h1, h2⟩
    split at h2
    · rename_i h3
      rw [Nat.testBit_and, Bool.and_eq_true, frO_bit, Bool.and_eq_true] at h2
      exact ⟨i, h1, h3, of_decide_eq_true h2.1.1, h2.1.2, h2.2⟩
    · simp at h2
  · rintro ⟨a, h1, h2, h3, h4, h5⟩
    refine ⟨a, h1, ?_⟩
    rw [if_pos h2, Nat.testBit_and, frO_bit, h4, h5]
    simpa using h3
theorem ldF_ok {u : XS} {w x : Nat} (hM : xM u ≤ 10) : ∀ X, X < 1024 → sub X (ldF u w X) ∧ ldF u w X < 1024 := fun X hX =>
  ⟨fun k hk => ldF_bit.mpr (Or.inl hk), bit_lt (n := 10) (fun k hk => by
    rcases ldF_bit.mp hk with h | ⟨a, h1, h2, h3, h4, h5⟩
    · exact lt_bit (n := 10) hX h
    · omega)⟩
theorem ldF_cl {u : XS} {w X : Nat} (e : ldF u w X = X) : clsd (ledR u w) X := by
  intro a b ha hb h1 h2
  unfold ledR at h2
  rw [Bool.and_eq_true, Bool.and_eq_true, Bool.and_eq_true] at h2
  obtain ⟨⟨⟨h2, h3⟩, h4⟩, h5⟩ := h2
  rw [← e]
  exact ldF_bit.mpr (Or.inr ⟨a, of_decide_eq_true h4, h1, of_decide_eq_true h5, h2, h3⟩)
theorem ldF_in {u : XS} {w X Z : Nat} (hM : xM u ≤ 10) (h : sub X Z) (hz : clsd (ledR u w) Z) : sub (ldF u w X) Z := by
  intro k hk
  rcases ldF_bit.mp hk with h1 | ⟨a, h1, h2, h3, h4, h5⟩
  · exact h k h1
  · refine hz a k (by omega) (by omega) (h a h2) ?_
    unfold ledR
    rw [h4, h5]
    simp; omega
/-- a loop that goes on till nothing more comes: how long it takes -/
def chm (its : Nat) (hd : Int32) : Nat := (11 - cn its) * 2 + (if hd = nI its then 0 else 1)
theorem chm_dec {F : Nat → Nat} {its : Nat} {hd : Int32} {m : Nat} (hs : sub its (F its) ∧ F its < 1024) (h : chm its hd < m + 1) (c : ¬ hd = nI its) : chm (F its) (nI its) < m := by
  unfold chm at h ⊢
  rw [if_neg c] at h
  have h1 := cn_le (F its)
  have h2 := cn_le its
  by_cases e : its = F its
  · rw [← e, if_pos rfl]; omega
  · have h3 := cn_lt hs.2 hs.1 e
    split <;> omega
/-- its set, and what it had before -/
def clx (R : Nat → Nat → Bool) (F : Nat → Nat) (x its : Nat) (hd : Int32) : Prop := sub x its ∧ its < 1024 ∧ (∀ Z, sub x Z → clsd R Z → sub its Z) ∧ ∀ h, h < 1024 → hd = nI h → its = F h ∨ its ≠ h
theorem clx_0 {R : Nat → Nat → Bool} {F : Nat → Nat} {x : Nat} (hx : x < 1024) {hd : Int32} (h : ∀ h, h < 1024 → hd = nI h → x ≠ h) : clx R F x x hd := ⟨sub_refl x, hx, fun _ h _ => h, fun k hk e => Or.inr (h k hk e)⟩
theorem clx_s {R : Nat → Nat → Bool} {F : Nat → Nat} {x its : Nat} {hd : Int32} (h : clx R F x its hd) (hs : sub its (F its) ∧ F its < 1024) (hi : ∀ Z, sub its Z → clsd R Z → sub (F its) Z) : clx R F x (F its) (nI its) :=
  ⟨sub_trans h.1 hs.1, hs.2, fun Z h1 h2 => hi Z (h.2.2.1 Z h1 h2) h2, fun k hk e => Or.inl (by rw [(nI_eqL (by have := h.2.1; omega) (by omega)).mp e])⟩
theorem clx_e {R : Nat → Nat → Bool} {F : Nat → Nat} {x its : Nat} {hd : Int32} (hx : x < 1024) (h : clx R F x its hd) (c : hd = nI its) (hf : ∀ X, F X = X → clsd R X) : its = clo R x :=
  clo_eq hx ⟨h.1, h.2.1, hf its ((h.2.2.2 its h.2.1 c).elim (fun e => e.symm) (fun e => absurd rfl e)), h.2.2.1⟩
theorem m1_no {x : Nat} : ∀ h, h < 1024 → (-1 : Int32) = nI h → x ≠ h := by
  intro h hh e
  exfalso
  have := congrArg Int32.toInt e
  rw [nI_toInt (by omega), show ((-1 : Int32)).toInt = -1 from by decide] at this
  omega
/-- who links to it, added to a set -/
def bkst (u : XS) (h a acc : Nat) : Nat := if h.testBit a then acc ||| toO u a else acc ||| 0
def bkF (u : XS) (h : Nat) : Nat := fol (bkst u h) (xM u) h
theorem bkst_eq (u : XS) (h i X : Nat) : bkst u h i X = X ||| (if h.testBit i then toO u i else 0) := by unfold bkst; split <;> rfl
theorem bkF_bit {u : XS} {h k : Nat} : (bkF u h).testBit k = true ↔ h.testBit k = true ∨ ∃ a, a < xM u ∧ h.testBit a = true ∧ k < xM u ∧ lnk u k a = true := by
  unfold bkF
  rw [fol_or (bkst_eq u h), Nat.testBit_or, Bool.or_eq_true, folor_bit]
  refine or_congr Iff.rfl ⟨?_, ?_⟩
  · rintro ⟨i, h1, h2⟩
    split at h2
    · rename_i h3
      rw [toO_bit, Bool.and_eq_true] at h2
      exact ⟨i, h1, h3, of_decide_eq_true h2.1, h2.2⟩
    · simp at h2
  · rintro ⟨a, h1, h2, h3, h4⟩
    refine ⟨a, h1, ?_⟩
    rw [if_pos h2, toO_bit, h4]
    simpa using h3
theorem bkF_ok {u : XS} (hM : xM u ≤ 10) : ∀ X, X < 1024 → sub X (bkF u X) ∧ bkF u X < 1024 := fun X hX =>
  ⟨fun k hk => bkF_bit.mpr (Or.inl hk), bit_lt (n := 10) (fun k hk => by
    rcases bkF_bit.mp hk with h | ⟨a, h1, h2, h3, h4⟩
    · exact lt_bit (n := 10) hX h
    · omega)⟩
theorem bkF_cl {u : XS} {X : Nat} (e : bkF u X = X) : clsd (backR u) X := by
  intro a b ha hb h1 h2
  unfold backR at h2
  rw [Bool.and_eq_true, Bool.and_eq_true] at h2
  obtain ⟨⟨h2, h3⟩, h4⟩ := h2
  rw [← e]
  exact bkF_bit.mpr (Or.inr ⟨a, of_decide_eq_true h4, h1, of_decide_eq_true h3, h2⟩)
theorem bkF_in {u : XS} {X Z : Nat} (hM : xM u ≤ 10) (h : sub X Z) (hz : clsd (backR u) Z) : sub (bkF u X) Z := by
  intro k hk
  rcases bkF_bit.mp hk with h1 | ⟨a, h1, h2, h3, h4⟩
  · exact h k h1
  · refine hz a k (by omega) (by omega) (h a h2) ?_
    unfold backR
    rw [h4]
    simp; omega
/-- one step on, what is new alone -/
def mo1 (u : XS) (X a acc : Nat) : Nat := if X.testBit a then acc ||| frO u a else acc ||| 0
def mo2 (u : XS) (X k acc : Nat) : Nat := if xRc u k < 10 then (if X.testBit (xRc u k) then (if (xL u).testBit (xAb u k) then acc ||| 2 ^ xAb u k else acc ||| 0) else acc ||| 0) else acc ||| 0
def on2 (u : XS) (X : Nat) : Nat := fol (mo2 u X) (xW u) (fol (mo1 u X) (xM u) 0)
theorem lh_sum2 {f : Nat → Int32} {n : Nat} {Y acc v : Int32} (h : acc = Y + sum f n) (c : f n = v) : acc + v = Y + sum f (n + 1) := by rw [sum, h, c, Int32.add_assoc]
theorem lh_sumz {f : Nat → Int32} {n : Nat} {acc : Int32} (h : acc = sum f n) (c : f n = 0) : acc + nI 0 = sum f (n + 1) := lh_sumt h c
theorem lh_sum2z {f : Nat → Int32} {n : Nat} {Y acc : Int32} (h : acc = Y + sum f n) (c : f n = 0) : acc + nI 0 = Y + sum f (n + 1) := lh_sum2 h c
/-- becoming gone, in the reference -/
def rst (u : XS) (x : Nat) (r : Bool) (i : Nat) (t : XS) : XS := if r then (if x.testBit (i / 10) then (if xLi t i ≤ 0 then t else if (gn u ||| x).testBit (i % 10) then t else app t (i % 10) 10 (xLi t i)) else t) else t
theorem rst_W (u : XS) (x : Nat) (r : Bool) (i : Nat) (t : XS) : xW (rst u x r i t) ≤ xW t + 1 := by
  unfold rst
  split
  · split
    · split
      · omega
      · split
        · omega
        · exact Nat.le_refl _
    · omega
  · omega
theorem rsf_W (u : XS) (x : Nat) (r : Bool) (n : Nat) (t : XS) : xW (fol (rst u x r) n t) ≤ xW t + n := by
  induction n with
  | zero => exact Nat.le_refl _
  | succ n ih =>
    have := rst_W u x r n (fol (rst u x r) n t)
    show xW (rst u x r n (fol (rst u x r) n t)) ≤ _
    omega
theorem rst_M (u : XS) (x : Nat) (r : Bool) (i : Nat) (t : XS) : xM (rst u x r i t) = xM t := by
  unfold rst
  split
  · split
    · split
      · rfl
      · split <;> rfl
    · rfl
  · rfl
def lst (x i : Nat) (f : Nat → Int32) : Nat → Int32 := if x.testBit (i / 10) then upd f i (-9) else if x.testBit (i % 10) then upd f i (-9) else f
theorem lst_n (x i : Nat) (f : Nat → Int32) (h1 : x.testBit (i / 10) = false) (h2 : x.testBit (i % 10) = false) : upd f i (f i) = lst x i f := by
  unfold lst
  rw [h1, h2]
  simp only [Bool.false_eq_true, if_false]
  funext j; unfold upd; split
  · rename_i e; rw [e]
  · rfl
def as2 (st yo k : Nat) (f : Nat → Int32) : Nat → Int32 := if st.testBit k then (if yo.testBit k then upd f k (nI 0) else if nI 9 ≤ f k then upd f k (nI 9) else upd f k (f k + nI 1)) else f
theorem m0_no {b : Nat} : ∀ h, h < 1024 → nI 0 = nI h → 2 ^ b ≠ h := by
  intro h hh e
  rw [← (nI_eqL (by decide) (by omega)).mp e]
  exact Nat.pos_iff_ne_zero.mp (Nat.two_pow_pos b)
theorem okB_tkp {u : XS} (h : okB u) (k x : Nat) : okB (tkp u k x) := by
  refine okB_same h rfl ?_ rfl (fun j => ?_) rfl rfl rfl
  · show xW u - 1 ≤ xW u; omega
  · show va_cpy (xAb u) (xAb u) _ _ _ j < 10
    unfold va_cpy; split <;> exact h.2.2.2.1 _
theorem rtO_and {u : XS} (hR : ∀ k, (xR u).testBit k = true → k < xM u) (x : Nat) : rtO u x = x &&& xR u := by
  apply Nat.eq_of_testBit_eq
  intro i
  unfold rtO
  rw [mk_bit, Nat.testBit_and]
  cases h : (xR u).testBit i with
  | false => simp
  | true => simp [hR i h]
theorem rtO_lt {u : XS} (hM : xM u ≤ 10) (x : Nat) : rtO u x < 1024 := mk1024 hM
theorem allR {u : XS} (hL : ∀ k, (xL u).testBit k = true → k < xM u) : rtO u (dif (2 ^ xM u - 1) (gn u)) = xL u &&& xR u := by
  apply Nat.eq_of_testBit_eq
  intro i
  unfold rtO
  rw [mk_bit, Nat.testBit_and, dif_bit, Nat.testBit_two_pow_sub_one, gn_bit]
  cases h : (xL u).testBit i with
  | false => by_cases q : i < xM u <;> simp [q]
  | true => simp [hL i h]
theorem pw_lt {M : Nat} (h : M ≤ 10) : 2 ^ M - 1 < 2147483648 := by
  have : 2 ^ M ≤ 2 ^ 10 := Nat.pow_le_pow_right (by decide) h
  have e : (2 : Nat) ^ 10 = 1024 := by decide
  omega
theorem pw_1 (M : Nat) : 1 ≤ 2 ^ M := Nat.two_pow_pos M
theorem pw_dif {M g : Nat} (h : M ≤ 10) : dif (2 ^ M - 1) g < 2147483648 := by
  have h1 : 2 ^ M ≤ 2 ^ 10 := Nat.pow_le_pow_right (by decide) h
  have e : (2 : Nat) ^ 10 = 1024 := by decide
  have h2 := pw_1 M
  have := sub_lt (dif_sub (2 ^ M - 1) g) (show 2 ^ M - 1 < 1024 by omega)
  omega

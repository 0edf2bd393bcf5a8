/-! LOOPS: what they add up, and closures by rounds in place -/
theorem lh_mkt {p : Nat → Bool} {n acc : Nat} (h : acc = mk p n) (c : p n = true) : acc ||| 2 ^ n = mk p (n + 1) := by rw [mk_t c, h]
theorem lh_mkf {p : Nat → Bool} {n acc : Nat} (h : acc = mk p n) (c : p n = false) : acc = mk p (n + 1) := by rw [mk_f c, h]
theorem lh_mk0 {p : Nat → Bool} {n acc : Nat} (h : acc = mk p n) (c : p n = false) : acc ||| 0 = mk p (n + 1) := by rw [mk_f c, h, Nat.or_zero]
theorem lh_cntt {p : Nat → Bool} {n acc : Nat} (h : acc = cnt p n) (c : p n = true) : acc + 1 = cnt p (n + 1) := by rw [cnt_t c, h]
theorem lh_cntf {p : Nat → Bool} {n acc : Nat} (h : acc = cnt p n) (c : p n = false) : acc = cnt p (n + 1) := by rw [cnt_f c, h]
theorem lh_sumt {f : Nat → Int32} {n : Nat} {acc v : Int32} (h : acc = sum f n) (c : f n = v) : acc + v = sum f (n + 1) := by rw [sum, h, c]
theorem lh_sumf {f : Nat → Int32} {n : Nat} {acc : Int32} (h : acc = sum f n) (c : f n = 0) : acc = sum f (n + 1) := by rw [sum, h, c, Int32.add_zero]
theorem mk1024 {p : Nat → Bool} {n : Nat} (h : n ≤ 10) : mk p n < 1024 := Nat.lt_of_lt_of_le (mk_lt p n) (Nat.pow_le_pow_right (by decide) h)
theorem frO_lt {u : XS} (hM : xM u ≤ 10) (a : Nat) : frO u a < 1024 := mk1024 hM
theorem toO_lt {u : XS} (hM : xM u ≤ 10) (a : Nat) : toO u a < 1024 := mk1024 hM
theorem onH_lt {u : XS} (hM : xM u ≤ 10) (h : Nat) : onH u h < 1024 := mk1024 hM
theorem and_lt {a b : Nat} (h : a < 1024) : a &&& b < 1024 := Nat.lt_of_le_of_lt Nat.and_le_left h
theorem and_ltR {a b : Nat} (h : b < 1024) : a &&& b < 1024 := Nat.lt_of_le_of_lt Nat.and_le_right h
theorem dif_sub (a b : Nat) : sub (dif a b) a := fun k hk => by
  rw [dif_bit, Bool.and_eq_true] at hk
  exact hk.1
theorem sub_lt {X Y : Nat} (h : sub X Y) (hY : Y < 1024) : X < 1024 := bit_lt (n := 10) (fun k hk => lt_bit (n := 10) hY (h k hk))
theorem dif_lt {a b : Nat} (h : a < 1024) : dif a b < 1024 := sub_lt (dif_sub a b) h
theorem or_bit {X j k : Nat} : (X ||| 2 ^ j).testBit k = (X.testBit k || decide (j = k)) := by rw [Nat.testBit_or, Nat.testBit_two_pow]
theorem sub_or2 {X j : Nat} : sub X (X ||| 2 ^ j) := sub_l X _
theorem or2_lt {X j : Nat} (h : X < 1024) (hj : j < 10) : X ||| 2 ^ j < 1024 := or_lt h (Nat.pow_lt_pow_right (by decide : 1 < 2) hj)
theorem or2_in {X j Z : Nat} (h : sub X Z) (hj : Z.testBit j = true) : sub (X ||| 2 ^ j) Z := fun k hk => by
  rw [or_bit, Bool.or_eq_true] at hk
  rcases hk with hk | hk
  · exact h k hk
  · rw [← of_decide_eq_true hk]; exact hj
theorem or2_eq {X j : Nat} (h : X ||| 2 ^ j = X) : X.testBit j = true := by
  rw [← h, or_bit]; simp
theorem fol_sub {f : Nat → Nat → Nat} (h : ∀ i X, sub X (f i X)) (n X : Nat) : sub X (fol f n X) := by
  induction n with
  | zero => exact sub_refl X
  | succ n ih => exact sub_trans ih (h n _)
theorem fol_lt {f : Nat → Nat → Nat} {n : Nat} (h : ∀ i X, i < n → X < 1024 → f i X < 1024) {X : Nat} (hX : X < 1024) : fol f n X < 1024 := by
  induction n with
  | zero => exact hX
  | succ n ih => exact h n _ (by omega) (ih (fun i X hi => h i X (by omega)))
/-- a fold that grows and comes back to its start has stood still at each step -/
theorem fol_still {f : Nat → Nat → Nat} (h : ∀ i X, sub X (f i X)) {n X : Nat} (e : fol f n X = X) : ∀ i, i < n → f i X = X := by
  have key : ∀ m, m ≤ n → fol f m X = X := by
    intro m hm
    apply sub_anti
    · have hs : ∀ j, sub (fol f m X) (fol f (m + j) X) := by
        intro j
        induction j with
        | zero => exact sub_refl _
        | succ j ih => exact sub_trans ih (h _ _)
      have := hs (n - m)
      rw [show m + (n - m) = n by omega, e] at this
      exact this
    · exact fol_sub h m X
  intro i hi
  have h1 := key (i + 1) (by omega)
  have h2 := key i (by omega)
  show f i X = X
  calc f i X = f i (fol f i X) := by rw [h2]
    _ = fol f (i + 1) X := rfl
    _ = X := h1
/-- near links, from an object to another -/
def nearR (u : XS) : Nat → Nat → Bool := fun a b => decide (xLi u (a * 10 + b) = 0)
def nstep (u : XS) (i X : Nat) : Nat := if xLi u i = 0 then (if X.testBit (i / 10) then X ||| 2 ^ (i % 10) else X) else X
theorem nstep_sub (u : XS) (i X : Nat) : sub X (nstep u i X) := by
  unfold nstep
  split
  · split
    · exact sub_or2
    · exact sub_refl X
  · exact sub_refl X
theorem nrnd {u : XS} {x : Nat} (hx : x < 1024) : rep (fol (nstep u) 100) 10 x = clo (nearR u) x := by
  refine clo_eq hx (rep_clo (F := fol (nstep u) 100) (fun X hX => ⟨fol_sub (nstep_sub u) 100 X, fol_lt (fun i X hi hX => ?_) hX⟩) ?_ (fun X hX e a b ha hb h1 h2 => ?_) (fun X Z hX h1 h2 => ?_) hx 10 (by decide))
  · unfold nstep
    split
    · split
      · exact or2_lt hX (by omega)
      · exact hX
    · exact hX
  · have h0 : ∀ n, fol (nstep u) n 0 = 0 := by
      intro n
      induction n with
      | zero => rfl
      | succ n ih => show nstep u n (fol (nstep u) n 0) = 0; rw [ih]; simp [nstep]
    exact h0 100
  · have h3 := fol_still (nstep_sub u) e (a * 10 + b) (by omega)
    unfold nstep at h3
    rw [if_pos (of_decide_eq_true h2), show (a * 10 + b) / 10 = a by omega, if_pos h1, show (a * 10 + b) % 10 = b by omega] at h3
    exact or2_eq h3
  · have hk : ∀ n, n ≤ 100 → sub (fol (nstep u) n X) Z := by
      intro n
      induction n with
      | zero => exact fun _ => h1
      | succ n ih =>
        intro hn
        have ih := ih (by omega)
        show sub (nstep u n (fol (nstep u) n X)) Z
        unfold nstep
        split
        · rename_i h5
          split
          · rename_i h6
            exact or2_in ih (h2 (n / 10) (n % 10) (by omega) (by omega) (ih _ h6) (decide_eq_true (by rw [show n / 10 * 10 + n % 10 = n by omega]; exact h5)))
          · exact ih
        · exact ih
    exact hk 100 (by decide)
/-- who has a link to one of the set -/
def backR (u : XS) : Nat → Nat → Bool := fun x a => lnk u a x && decide (a < xM u) && decide (x < xM u)
def bstep (u : XS) (a X : Nat) : Nat := if frO u a &&& X = 0 then X else X ||| 2 ^ a
theorem bstep_sub (u : XS) (i X : Nat) : sub X (bstep u i X) := by
  unfold bstep
  split
  · exact sub_refl X
  · exact sub_or2
theorem and_ne {a b : Nat} (h : ¬ a &&& b = 0) : ∃ k, a.testBit k = true ∧ b.testBit k = true := by
  apply Classical.byContradiction
  intro hn
  apply h
  apply Nat.eq_of_testBit_eq
  intro i
  rw [Nat.testBit_and, Nat.zero_testBit]
  cases h1 : a.testBit i with
  | false => rfl
  | true =>
    cases h2 : b.testBit i with
    | false => rfl
    | true => exact absurd ⟨i, h1, h2⟩ hn
theorem and_ne_of {a b k : Nat} (h1 : a.testBit k = true) (h2 : b.testBit k = true) : ¬ a &&& b = 0 := by
  intro h
  have : (a &&& b).testBit k = true := by rw [Nat.testBit_and, h1, h2]; rfl
  rw [h] at this
  simp at this
theorem brnd {u : XS} {x : Nat} (hM : xM u ≤ 10) (hx : x < 1024) : rep (fol (bstep u) (xM u)) 10 x = clo (backR u) x := by
  refine clo_eq hx (rep_clo (F := fol (bstep u) (xM u)) (fun X hX => ⟨fol_sub (bstep_sub u) _ X, fol_lt (fun i X hi hX => ?_) hX⟩) ?_ (fun X hX e a b ha hb h1 h2 => ?_) (fun X Z hX h1 h2 => ?_) hx 10 (by decide))
  · unfold bstep
    split
    · exact hX
    · exact or2_lt hX (by omega)
  · have h0 : ∀ n, fol (bstep u) n 0 = 0 := by
      intro n
      induction n with
      | zero => rfl
      | succ n ih => show bstep u n (fol (bstep u) n 0) = 0; rw [ih]; simp [bstep]
    exact h0 _
  · unfold backR at h2
    rw [Bool.and_eq_true, Bool.and_eq_true] at h2
    obtain ⟨⟨h2, h3⟩, h4⟩ := h2
    have h5 := fol_still (bstep_sub u) e b (of_decide_eq_true h3)
    unfold bstep at h5
    have h6 : (frO u b).testBit a = true := by unfold frO; rw [mk_bit, h4, h2]; rfl
    rw [if_neg (and_ne_of h6 h1)] at h5
    exact or2_eq h5
  · have hk : ∀ n, n ≤ xM u → sub (fol (bstep u) n X) Z := by
      intro n
      induction n with
      | zero => exact fun _ => h1
      | succ n ih =>
        intro hn
        have ih := ih (by omega)
        show sub (bstep u n (fol (bstep u) n X)) Z
        unfold bstep
        split
        · exact ih
        · rename_i h5
          obtain ⟨k, k1, k2⟩ := and_ne h5
          have k3 : k < xM u ∧ lnk u n k = true := by
            unfold frO at k1
            rw [mk_bit, Bool.and_eq_true] at k1
            exact ⟨of_decide_eq_true k1.1, k1.2⟩
          refine or2_in ih (h2 k n (by omega) (by omega) (ih _ k2) ?_)
          unfold backR
          rw [k3.2]
          simp; omega
    exact hk _ (Nat.le_refl _)
def seed (u : XS) (h : Nat) : Nat := mk (fun a => lvo u a h && ((xR u).testBit a || !decide (xOu u a ≤ 0))) (xM u)
def stay (u : XS) (h : Nat) : Nat := clo (nearR u) (seed u h)
theorem clo_lt {R : Nat → Nat → Bool} {X : Nat} (h : X < 1024) : clo R X < 1024 := (clo_is h).2.1
/-- ages after a collecting: st stays, yo is young -/
def ast (st yo k : Nat) (f : Nat → Int32) : Nat → Int32 := if yo.testBit k then upd f k (nI 0) else if st.testBit k then upd f k (if nI 9 < f k + nI 1 then nI 9 else f k + nI 1) else f
def grw (u : XS) (st yo : Nat) : XS := sAg u (fol (ast st yo) (xM u) (xAg u))
/-- returns of what a set holds of the others -/
def sstep (X a b : Nat) (t : XS) : XS := if X.testBit a then (if X.testBit b then t else if xLi t (a * 10 + b) ≤ 0 then t else app t b 10 (xLi t (a * 10 + b))) else t
def srow (X a n : Nat) (t : XS) : XS := fol (sstep X a) n t
def sro (u : XS) (X : Nat) : XS := fol (fun a t => srow X a (xM u) t) (xM u) u
def gstep (X a b : Nat) (f : Nat → Int32) : Nat → Int32 := if X.testBit a then upd f (a * 10 + b) (-9) else if X.testBit b then upd f (a * 10 + b) (-9) else f
def grow (X a n : Nat) (f : Nat → Int32) : Nat → Int32 := fol (gstep X a) n f
def gli (u : XS) (X : Nat) : Nat → Int32 := fol (fun a f => grow X a (xM u) f) (xM u) (xLi u)
def bgo (u : XS) (X : Nat) : XS := sLi (sL u (dif (xL u) X)) (gli u X)
theorem sstep_W (X a b : Nat) (t : XS) : xW (sstep X a b t) ≤ xW t + (if X.testBit a && !X.testBit b then 1 else 0) := by
  unfold sstep
  cases X.testBit a <;> cases X.testBit b <;> simp
  split
  · omega
  · show xW t + 1 ≤ _; omega
theorem srow_W (X a n : Nat) (t : XS) : xW (srow X a n t) ≤ xW t + (if X.testBit a then (if a < n then n - 1 else n) else 0) := by
  unfold srow
  induction n with
  | zero => exact Nat.le_add_right _ _
  | succ n ih =>
    show xW (sstep X a n (fol (sstep X a) n t)) ≤ _
    have h := sstep_W X a n (fol (sstep X a) n t)
    cases h1 : X.testBit a with
    | false => rw [h1] at h ih; simp at h ih ⊢; omega
    | true =>
      rw [h1] at h ih
      by_cases e : a = n
      · subst e; rw [h1] at h; simp at h ih ⊢; omega
      · simp only [if_true] at ih ⊢
        have : (if (true && !X.testBit n) = true then 1 else 0) ≤ 1 := by split <;> omega
        split at ih <;> split <;> omega
theorem sros_W (X M n : Nat) (hM : M ≤ 10) (hn : n ≤ M) (t : XS) : xW (fol (fun a t => srow X a M t) n t) ≤ xW t + 9 * cnt (fun k => X.testBit k) n := by
  induction n with
  | zero => exact Nat.le_add_right _ _
  | succ n ih =>
    show xW (srow X n M (fol (fun a t => srow X a M t) n t)) ≤ _
    have h := srow_W X n M (fol (fun a t => srow X a M t) n t)
    have ih := ih (by omega)
    rw [if_pos (by omega : n < M)] at h
    unfold cnt
    cases h1 : X.testBit n with
    | false => rw [h1] at h; simp at h ⊢; omega
    | true => rw [h1] at h; simp at h ⊢; omega
theorem cnt_mon (p : Nat → Bool) {m n : Nat} (h : m ≤ n) : cnt p m ≤ cnt p n := by
  induction n with
  | zero => rw [show m = 0 by omega]; exact Nat.le_refl _
  | succ n ih =>
    by_cases e : m = n + 1
    · rw [e]; exact Nat.le_refl _
    · have := ih (by omega)
      show cnt p m ≤ cnt p n + (if p n then 1 else 0)
      omega
/-- at each sending there is room -/
theorem sro_room {u : XS} {X a b : Nat} (hM : xM u ≤ 10) (hW : xW u + 9 * cn X ≤ 150) (ha : a < xM u) (hb : b < xM u) (h1 : X.testBit a = true) (h2 : X.testBit b = false) : xW (srow X a b (fol (fun a t => srow X a (xM u) t) a u)) < 150 := by
  have h3 := srow_W X a b (fol (fun a t => srow X a (xM u) t) a u)
  have h4 := sros_W X (xM u) a hM (by omega) u
  rw [h1] at h3
  simp only [if_true] at h3
  have h5 : cnt (fun k => X.testBit k) (a + 1) ≤ cn X := cnt_mon _ (by omega)
  have h6 : cnt (fun k => X.testBit k) (a + 1) = cnt (fun k => X.testBit k) a + 1 := cnt_t h1
  have h7 : a ≠ b := fun e => by rw [e, h2] at h1; exact absurd h1 (by decide)
  split at h3 <;> omega
theorem fol_Li {f : Nat → XS → XS} (h : ∀ i t, xLi (f i t) = xLi t) (n : Nat) (t : XS) : xLi (fol f n t) = xLi t := by
  induction n with
  | zero => rfl
  | succ n ih => exact (h n _).trans ih
theorem fol_M {f : Nat → XS → XS} (h : ∀ i t, xM (f i t) = xM t) (n : Nat) (t : XS) : xM (fol f n t) = xM t := by
  induction n with
  | zero => rfl
  | succ n ih => exact (h n _).trans ih
theorem sstep_M (X a b : Nat) (t : XS) : xM (sstep X a b t) = xM t := by
  unfold sstep
  split
  · split
    · rfl
    · split <;> rfl
  · rfl
theorem sstep_Li (X a b : Nat) (t : XS) : xLi (sstep X a b t) = xLi t := by
  unfold sstep
  split
  · split
    · rfl
    · split <;> rfl
  · rfl
theorem srow_succ (X a n : Nat) (t : XS) : srow X a (n + 1) t = sstep X a n (srow X a n t) := rfl
theorem srow_M (X a n : Nat) (t : XS) : xM (srow X a n t) = xM t := fol_M (sstep_M X a) n t
theorem srow_Li (X a n : Nat) (t : XS) : xLi (srow X a n t) = xLi t := fol_Li (sstep_Li X a) n t
/-- why a set is held -/
def anb (p : Nat → Bool) : Nat → Bool
  | 0 => false
  | n + 1 => anb p n || p n
theorem anb_of {p : Nat → Bool} {n k : Nat} (hk : k < n) (h : p k = true) : anb p n = true := by
  induction n with
  | zero => exact absurd hk (Nat.not_lt_zero k)
  | succ n ih =>
    unfold anb
    by_cases e : k = n
    · subst e; rw [h, Bool.or_true]
    · rw [ih (by omega), Bool.true_or]
theorem anb_f {p : Nat → Bool} {n : Nat} (h : anb p n = false) (c : p n = false) : anb p (n + 1) = false := by unfold anb; rw [h, c]; rfl
def hel (u : XS) (X : Nat) : Nat := if X &&& xR u = 0 then (if anb (fun k => decide (xRc u k < 10) && X.testBit (xAb u k)) (xW u) then 2 else 0) else 1
/-- the machine's count of bits -/
def bcM (x0 : Int32) : Int32 :=
  let s := fun (x : Int32) (k : Int32) => (x.toUInt32 >>> (k.toUInt32 &&& Int32.toUInt32 31)).toInt32
  let x1 := x0 - (s x0 (nI 1) &&& 1431655765)
  let x2 := (x1 &&& 858993459) + (s x1 (nI 2) &&& 858993459)
  let x3 := (x2 + s x2 (nI 4)) &&& 252645135
  let x4 := x3 + s x3 (nI 8)
  let x5 := x4 + s x4 (nI 16)
  x5 &&& nI 63
set_option maxRecDepth 100000 in
theorem bcM_cn : ∀ x, x < 1024 → bcM (nI x) = nI (cn x) := by decide +kernel

/-! WHAT EACH METHOD ANSWERS AND LEAVES, in words of the state alone -/
def okB (u : XS) : Prop := xM u ≤ 10 ∧ xW u ≤ 150 ∧ (∀ k, xHo u k < 4) ∧ (∀ k, xAb u k < 10) ∧ xL u < 1024 ∧ xR u < 1024 ∧ xD u < 16
theorem lh_tst {s k : Nat} (hk : k < 31) (h : nI (s &&& 2 ^ k) = 0) : s.testBit k = false := (lh_tst0 hk).mp h
theorem lh_tst1 {s k : Nat} (hk : k < 31) (h : ¬ nI (s &&& 2 ^ k) = 0) : s.testBit k = true := by
  cases hb : s.testBit k with
  | true => rfl
  | false => exact absurd ((lh_tst0 hk).mpr hb) h
def isObj (u : XS) (a : Int32) : Bool := decide (¬ a < 0 ∧ a < nI (xM u))
def isHo (h : Int32) : Bool := decide (¬ h < 0 ∧ h < nI 4)
def isLe (u : XS) (a : Int32) : Bool := decide (¬ a < 0 ∧ a < nI (xW u))
def lnk (u : XS) (a b : Nat) : Bool := !decide (xLi u (a * 10 + b) = -9)
def kd (u : XS) (k : Nat) : Nat := if xRc u k < 10 then 0 else 1
def app (u : XS) (b a : Nat) (w : Int32) : XS := sW (sLo (sRc (sAb u (va_up (xAb u) (xW u) b)) (va_up (xRc u) (xW u) a)) (upd (xLo u) (xW u) w)) (xW u + 1)
def tak (u : XS) (k : Nat) : XS := sW (sLo (sRc (sAb u (va_cpy (xAb u) (xAb u) (k + 1) k (xW u - k - 1))) (va_cpy (xRc u) (xRc u) (k + 1) k (xW u - k - 1))) (va_cpy (xLo u) (xLo u) (k + 1) k (xW u - k - 1))) (xW u - 1)
/-- lives on a host -/
def lvo (u : XS) (a h : Nat) : Bool := (xL u).testBit a && decide (xHo u a = h)
def onH (u : XS) (h : Nat) : Nat := mk (fun a => lvo u a h) (xM u)
def nbr (u : XS) (a b : Nat) : Bool := decide (xHo u a = xHo u b)
def adL (u : XS) (a b : Nat) (w : Int32) : XS :=
  sAg (sLi u (upd (xLi u) (a * 10 + b) (if lnk u a b then xLi u (a * 10 + b) + w else w))) (if lnk u a b then xAg u else upd (xAg u) b (nI 0))
def frO (u : XS) (a : Nat) : Nat := mk (fun b => lnk u a b) (xM u)
def toO (u : XS) (b : Nat) : Nat := mk (fun a => lnk u a b) (xM u)
def mayG (u : XS) (x a b : Nat) : Bool := (xL u).testBit x && (xL u).testBit a && (xL u).testBit b && !decide (a = x) && !decide (a = b) && lnk u x a && (decide (x = b) || lnk u x b)
/-- the state behind a split, and what is split off -/
def splW (u : XS) (x b : Nat) : Int32 := if xLi u (x * 10 + b) = nI 1 then xLi u (x * 10 + b) + nI 64 else xLi u (x * 10 + b)
def splR (u : XS) (x b : Nat) : Int32 := splW u x b / nI 2
def splS (u : XS) (x b : Nat) : XS :=
  sLi (sOu (sF u (if xLi u (x * 10 + b) = nI 1 then xF u + nI 1 else xF u)) (if xLi u (x * 10 + b) = nI 1 then upd (xOu u) b (xOu u b + nI 64) else xOu u)) (upd (xLi u) (x * 10 + b) (splW u x b - splW u x b / nI 2))
def goT (u : XS) (k : Nat) : Nat := if xRc u k < 10 then xHo u (xRc u k) else xHo u (xAb u k)
/-! counts and sums over a run of numbers -/
def cnt (p : Nat → Bool) : Nat → Nat
  | 0 => 0
  | n + 1 => cnt p n + if p n then 1 else 0
theorem cnt_t {p : Nat → Bool} {n : Nat} (h : p n = true) : cnt p (n + 1) = cnt p n + 1 := by simp [cnt, h]
theorem cnt_f {p : Nat → Bool} {n : Nat} (h : p n = false) : cnt p (n + 1) = cnt p n := by simp [cnt, h]
theorem cnt_le (p : Nat → Bool) (n : Nat) : cnt p n ≤ n := by
  induction n with
  | zero => exact Nat.le_refl 0
  | succ n ih => unfold cnt; split <;> omega
def sum (f : Nat → Int32) : Nat → Int32
  | 0 => 0
  | n + 1 => sum f n + f n
/-- f, n times behind one another -/
def rep {α : Type} (f : α → α) : Nat → α → α
  | 0, x => x
  | n + 1, x => f (rep f n x)
/-- a fold over 0 .. n - 1 -/
def fol {α : Type} (f : Nat → α → α) : Nat → α → α
  | 0, x => x
  | n + 1, x => f n (fol f n x)
/-! closures of sets of objects under a relation of numbers below 10 -/
def sub (X Y : Nat) : Prop := ∀ k, X.testBit k = true → Y.testBit k = true
def clsd (R : Nat → Nat → Bool) (X : Nat) : Prop := ∀ a b, a < 10 → b < 10 → X.testBit a = true → R a b = true → X.testBit b = true
def stpR (R : Nat → Nat → Bool) (X : Nat) : Nat := X ||| mk (fun b => (List.range 10).any (fun a => X.testBit a && R a b)) 10
def clo (R : Nat → Nat → Bool) (X : Nat) : Nat := rep (stpR R) 10 X
def isClo (R : Nat → Nat → Bool) (X Y : Nat) : Prop := sub X Y ∧ Y < 1024 ∧ clsd R Y ∧ ∀ Z, sub X Z → clsd R Z → sub Y Z
theorem sub_refl (X : Nat) : sub X X := fun _ h => h
theorem sub_trans {X Y Z : Nat} (h : sub X Y) (h2 : sub Y Z) : sub X Z := fun k hk => h2 k (h k hk)
theorem sub_anti {X Y : Nat} (h : sub X Y) (h2 : sub Y X) : X = Y := by
  apply Nat.eq_of_testBit_eq
  intro i
  cases hx : X.testBit i with
  | true => exact (h i hx).symm
  | false =>
    cases hy : Y.testBit i with
    | true => exact absurd (h2 i hy) (by rw [hx]; decide)
    | false => rfl
theorem sub_or {X Y Z : Nat} (h : sub X Z) (h2 : sub Y Z) : sub (X ||| Y) Z := by
  intro k hk
  rw [Nat.testBit_or, Bool.or_eq_true] at hk
  rcases hk with hk | hk
  · exact h k hk
  · exact h2 k hk
theorem sub_l (X Y : Nat) : sub X (X ||| Y) := fun k hk => by rw [Nat.testBit_or, hk]; rfl
theorem isClo_one {R : Nat → Nat → Bool} {X Y Y' : Nat} (h : isClo R X Y) (h' : isClo R X Y') : Y = Y' :=
  sub_anti (h.2.2.2 Y' h'.1 h'.2.2.1) (h'.2.2.2 Y h.1 h.2.2.1)
theorem lt_bit {X n : Nat} (h : X < 2 ^ n) {k : Nat} (hk : X.testBit k = true) : k < n := by
  rcases Nat.lt_or_ge k n with q | q
  · exact q
  · rw [Nat.testBit_lt_two_pow (Nat.lt_of_lt_of_le h (Nat.pow_le_pow_right (by decide) q))] at hk
    exact absurd hk (by decide)
theorem bit_lt {X n : Nat} (h : ∀ k, X.testBit k = true → k < n) : X < 2 ^ n := by
  apply Nat.lt_pow_two_of_testBit
  intro i hi
  cases hx : X.testBit i with
  | false => rfl
  | true => exact absurd (h i hx) (by omega)
theorem or_lt {X Y : Nat} (h : X < 1024) (h2 : Y < 1024) : X ||| Y < 1024 := Nat.or_lt_two_pow (n := 10) h h2
/-- how many of the bits below 10 are set -/
def cn (X : Nat) : Nat := cnt (fun k => X.testBit k) 10
theorem cnt_mono {p q : Nat → Bool} : ∀ n, (∀ k, k < n → p k = true → q k = true) → cnt p n ≤ cnt q n
  | 0, _ => Nat.le_refl 0
  | n + 1, h => by
    have ih := cnt_mono n (fun k hk => h k (by omega))
    unfold cnt
    cases hp : p n with
    | false => simp; split <;> omega
    | true => rw [h n (by omega) hp]; simp; omega
theorem cnt_lt {p q : Nat → Bool} : ∀ n, (∀ k, k < n → p k = true → q k = true) → (∃ k, k < n ∧ p k = false ∧ q k = true) → cnt p n < cnt q n
  | 0, _, h => by obtain ⟨k, hk, -⟩ := h; exact absurd hk (Nat.not_lt_zero k)
  | n + 1, h, hx => by
    obtain ⟨k, hk, h1, h2⟩ := hx
    have hm := cnt_mono n (fun k hk => h k (by omega))
    unfold cnt
    by_cases e : k = n
    · subst e
      rw [h1, h2]
      simp; omega
    · have ih := cnt_lt n (fun k hk => h k (by omega)) ⟨k, by omega, h1, h2⟩
      cases hp : p n with
      | false => simp; split <;> omega
      | true => rw [h n (by omega) hp]; simp; omega
theorem cn_le (X : Nat) : cn X ≤ 10 := cnt_le _ 10
theorem cn_sub {X Y : Nat} (h : sub X Y) : cn X ≤ cn Y := cnt_mono 10 (fun k _ hk => h k hk)
theorem cn_lt {X Y : Nat} (hY : Y < 1024) (h : sub X Y) (hne : X ≠ Y) : cn X < cn Y := by
  apply cnt_lt 10 (fun k _ hk => h k hk)
  apply Classical.byContradiction
  intro hn
  apply hne
  apply sub_anti h
  intro k hk
  cases hx : X.testBit k with
  | true => rfl
  | false => exact absurd ⟨k, lt_bit (n := 10) hY hk, hx, hk⟩ hn
/-- what grows, ten times behind one another, has come to its end -/
theorem grow_fix {F : Nat → Nat} (hs : ∀ X, X < 1024 → sub X (F X) ∧ F X < 1024) (h0 : F 0 = 0) {X : Nat} (hX : X < 1024) : ∀ n, 9 ≤ n → F (rep F n X) = rep F n X := by
  have hlt : ∀ n, rep F n X < 1024 := by
    intro n
    induction n with
    | zero => exact hX
    | succ n ih => exact (hs _ ih).2
  have key : ∀ n, F (rep F n X) = rep F n X ∨ n + 1 ≤ cn (rep F n X) := by
    intro n
    induction n with
    | zero =>
      by_cases e : X = 0
      · left; show F X = X; rw [e]; exact h0
      · right
        show 1 ≤ cn X
        have := cn_lt (X := 0) hX (fun k hk => by simp at hk) (Ne.symm e)
        omega
    | succ n ih =>
      rcases ih with h | h
      · left
        show F (F (rep F n X)) = F (rep F n X)
        rw [h, h]
      · by_cases e : F (rep F n X) = rep F n X
        · left
          show F (F (rep F n X)) = F (rep F n X)
          rw [e, e]
        · right
          have := cn_lt (hs _ (hlt n)).2 (hs _ (hlt n)).1 (Ne.symm e)
          show n + 1 + 1 ≤ cn (F (rep F n X))
          omega
  intro n hn
  rcases key n with h | h
  · exact h
  · have := cn_le (rep F n X)
    by_cases e : F (rep F n X) = rep F n X
    · exact e
    · have h2 := cn_lt (hs _ (hlt n)).2 (hs _ (hlt n)).1 (Ne.symm e)
      have h3 := cn_le (F (rep F n X))
      omega
theorem stpR_sub (R : Nat → Nat → Bool) (X : Nat) : sub X (stpR R X) := sub_l _ _
theorem stpR_lt {R : Nat → Nat → Bool} {X : Nat} (h : X < 1024) : stpR R X < 1024 := or_lt h (mk_lt _ 10)
theorem stpR_0 (R : Nat → Nat → Bool) : stpR R 0 = 0 := by
  apply Nat.eq_of_testBit_eq
  intro i
  unfold stpR
  rw [Nat.testBit_or, mk_bit]
  simp
theorem stpR_clsd {R : Nat → Nat → Bool} {X : Nat} (h : stpR R X = X) : clsd R X := by
  intro a b ha hb hx hr
  rw [← h]
  unfold stpR
  rw [Nat.testBit_or, mk_bit, Bool.or_eq_true, Bool.and_eq_true, List.any_eq_true]
  exact Or.inr ⟨by simpa using hb, a, List.mem_range.mpr ha, by rw [hx, hr]; rfl⟩
theorem stpR_in {R : Nat → Nat → Bool} {X Z : Nat} (h : sub X Z) (hz : clsd R Z) : sub (stpR R X) Z := by
  refine sub_or h (fun k hk => ?_)
  rw [mk_bit, Bool.and_eq_true, List.any_eq_true] at hk
  obtain ⟨h1, a, ha, h2⟩ := hk
  rw [Bool.and_eq_true] at h2
  exact hz a k (List.mem_range.mp ha) (by simpa using h1) (h a h2.1) h2.2
/-- a step that grows, stays within what is closed, and stops at what is closed alone, comes in ten steps to the closure -/
theorem rep_clo {R : Nat → Nat → Bool} {F : Nat → Nat} (hs : ∀ X, X < 1024 → sub X (F X) ∧ F X < 1024) (h0 : F 0 = 0) (hf : ∀ X, X < 1024 → F X = X → clsd R X) (hi : ∀ X Z, X < 1024 → sub X Z → clsd R Z → sub (F X) Z) {X : Nat} (hX : X < 1024) : ∀ n, 9 ≤ n → isClo R X (rep F n X) := by
  intro n hn
  have hlt : ∀ n, rep F n X < 1024 := by
    intro n
    induction n with
    | zero => exact hX
    | succ n ih => exact (hs _ ih).2
  refine ⟨?_, hlt n, hf _ (hlt n) (grow_fix hs h0 hX n hn), fun Z h1 h2 => ?_⟩
  · clear hn
    induction n with
    | zero => exact sub_refl X
    | succ n ih => exact sub_trans ih (hs _ (hlt n)).1
  · clear hn
    induction n with
    | zero => exact h1
    | succ n ih => exact hi _ Z (hlt n) ih h2
theorem clo_is {R : Nat → Nat → Bool} {X : Nat} (hX : X < 1024) : isClo R X (clo R X) :=
  rep_clo (fun X h => ⟨stpR_sub R X, stpR_lt h⟩) (stpR_0 R) (fun X _ h => stpR_clsd h) (fun X Z _ h h2 => stpR_in h h2) hX 10 (by decide)
theorem clo_eq {R : Nat → Nat → Bool} {X Y : Nat} (hX : X < 1024) (h : isClo R X Y) : Y = clo R X := isClo_one h (clo_is hX)

/-! THE PUBLIC METHODS: what is answered (R) and left (S) -/
def wt (x : Int32) : Nat := x.toNatClampNeg
def tot (u : XS) : Nat := fb_sm (fun i => wt (xLi u i)) 100 + fb_sm (fun k => wt (xLo u k)) (xW u)
/-- what holds of every state that calls come to; T: the weights together are at most so much -/
def Inv (T : Nat) (u : XS) : Prop :=
  okB u ∧ xW u + 9 * cn (xL u) ≤ 60 + 9 * xM u ∧ (∀ k, (xL u).testBit k = true → k < xM u) ∧ (∀ k, (xR u).testBit k = true → k < xM u) ∧
  (∀ a b, a < 10 → b < 10 → lnk u a b = true → (xL u).testBit a = true ∧ (xL u).testBit b = true ∧ a ≠ b ∧ (xHo u a = xHo u b → xLi u (a * 10 + b) = 0) ∧ (xHo u a ≠ xHo u b → 0 < (xLi u (a * 10 + b)).toInt)) ∧
  (∀ k, k < xW u → xAb u k < xM u ∧ (xRc u k < 10 → xRc u k < xM u ∧ xRc u k ≠ xAb u k) ∧ 0 < (xLo u k).toInt) ∧
  (∀ k, (xAg u k).toInt ≤ 9) ∧ tot u ≤ T
theorem Inv_ok {T : Nat} {u : XS} (h : Inv T u) : okB u := h.1
theorem Inv_W {T : Nat} {u : XS} (h : Inv T u) : xW u + 9 * cn (xL u) ≤ 150 := by
  have h1 := h.1.1
  have h2 := h.2.1
  omega
theorem clo_sub {R : Nat → Nat → Bool} {X Z : Nat} (hX : X < 1024) (h : sub X Z) (hz : clsd R Z) : sub (clo R X) Z := (clo_is hX).2.2.2 Z h hz
theorem pow_lt {b : Nat} (h : b < 10) : 2 ^ b < 1024 := Nat.pow_lt_pow_right (by decide : 1 < 2) h
theorem pow_sub {b X : Nat} (h : X.testBit b = true) : sub (2 ^ b) X := fun k hk => by
  rw [Nat.testBit_two_pow] at hk
  rw [← of_decide_eq_true hk]; exact h
theorem back_live {T : Nat} {u : XS} (h : Inv T u) {b : Nat} (hb : b < 10) (hl : (xL u).testBit b = true) : sub (clo (backR u) (2 ^ b)) (xL u) := by
  refine clo_sub (pow_lt hb) (pow_sub hl) (fun x a hx ha h1 h2 => ?_)
  unfold backR at h2
  rw [Bool.and_eq_true, Bool.and_eq_true] at h2
  exact (h.2.2.2.2.1 a x ha hx h2.1.1).1
theorem back_W {T : Nat} {u : XS} (h : Inv T u) {b : Nat} (hb : b < 10) (hl : (xL u).testBit b = true) : xW u + 9 * cn (clo (backR u) (2 ^ b)) ≤ 150 := by
  have h1 := cn_sub (back_live h hb hl)
  have h2 := Inv_W h
  omega
def objR (u : XS) (h : Int32) : Int32 := if isHo h then (if (xD u).testBit h.toNatClampNeg then -3 else if xM u < 10 then nI (xM u) else -4) else -1
def objS (u : XS) (h : Int32) (r : Bool) : XS := if isHo h then (if (xD u).testBit h.toNatClampNeg then u else if xM u < 10 then sR (sL (sHo (sM u (xM u + 1)) (va_up (xHo u) (xM u) h.toNatClampNeg)) (xL u ||| 2 ^ xM u)) (if r then xR u ||| 2 ^ xM u else xR u) else u) else u
def rooR (u : XS) (a : Int32) (is : Bool) : Int32 := if isObj u a then (if (xL u).testBit a.toNatClampNeg then (if (xR u).testBit a.toNatClampNeg = is then 0 else 1) else -3) else -1
def rooS (u : XS) (a : Int32) (is : Bool) : XS := if isObj u a then (if (xL u).testBit a.toNatClampNeg then (if (xR u).testBit a.toNatClampNeg = is then u else sR u (xR u ^^^ 2 ^ a.toNatClampNeg)) else u) else u
def lnkQ (u : XS) (a b : Nat) : Bool := !decide (a = b) && (xL u).testBit a && (xL u).testBit b && (nbr u a b || (xR u).testBit b)
def lnkR (u : XS) (a b : Int32) : Int32 := if isObj u a then (if isObj u b then (if lnkQ u a.toNatClampNeg b.toNatClampNeg then (if lnk u a.toNatClampNeg b.toNatClampNeg then 0 else 1) else -3) else -1) else -1
def lnkT (u : XS) (a b : Nat) : XS := if nbr u a b then adL u a b (nI 0) else adL (sOu u (upd (xOu u) b (xOu u b + nI 64))) a b (nI 64)
def lnkS (u : XS) (a b : Int32) : XS := if isObj u a then (if isObj u b then (if lnkQ u a.toNatClampNeg b.toNatClampNeg then (if lnk u a.toNatClampNeg b.toNatClampNeg then u else lnkT u a.toNatClampNeg b.toNatClampNeg) else u) else u) else u
def unlC (u : XS) (a b : Nat) : XS := sLi u (upd (xLi u) (a * 10 + b) (-9))
def unlR (u : XS) (a b : Int32) : Int32 := if isObj u a then (if isObj u b then (if lnk u a.toNatClampNeg b.toNatClampNeg then (if xLi u (a.toNatClampNeg * 10 + b.toNatClampNeg) = 0 then 0 else if xW u < 60 then 1 else -4) else -3) else -1) else -1
def unlS (u : XS) (a b : Int32) : XS := if isObj u a then (if isObj u b then (if lnk u a.toNatClampNeg b.toNatClampNeg then (if xLi u (a.toNatClampNeg * 10 + b.toNatClampNeg) = 0 then unlC u a.toNatClampNeg b.toNatClampNeg else if xW u < 60 then app (unlC u a.toNatClampNeg b.toNatClampNeg) b.toNatClampNeg 10 (xLi u (a.toNatClampNeg * 10 + b.toNatClampNeg)) else u) else u) else u) else u
def ofoR (u : XS) (a w : Int32) : Int32 := if isObj u a then
  (if w = nI 0 then nI (xHo u a.toNatClampNeg) else if w = nI 1 then b2i ((xR u).testBit a.toNatClampNeg) else if w = nI 2 then b2i ((xL u).testBit a.toNatClampNeg) else if w = nI 3 then xOu u a.toNatClampNeg else if w = nI 4 then xAg u a.toNatClampNeg else if w = nI 5 then nI (frO u a.toNatClampNeg) else if w = nI 6 then nI (toO u a.toNatClampNeg) else -2) else -1
def wgtR (u : XS) (a b : Int32) : Int32 := if isObj u a then (if isObj u b then xLi u (a.toNatClampNeg * 10 + b.toNatClampNeg) else -1) else -1
def givR (u : XS) (x a b : Int32) : Int32 := if isObj u x then (if isObj u a then (if isObj u b then (if mayG u x.toNatClampNeg a.toNatClampNeg b.toNatClampNeg then (if nbr u x.toNatClampNeg a.toNatClampNeg then 0 else if xW u < 60 then 1 else -4) else -3) else -1) else -1) else -1
def givT (u : XS) (x a b : Nat) : XS := if nbr u x a then (if nbr u x b then adL u a b (nI 0) else adL (splS u x b) a b (splR u x b)) else if xW u < 60 then (if nbr u x b then app (sOu u (upd (xOu u) b (xOu u b + nI 64))) b a (nI 64) else app (splS u x b) b a (splR u x b)) else u
def givS (u : XS) (x a b : Int32) : XS := if isObj u x then (if isObj u a then (if isObj u b then (if mayG u x.toNatClampNeg a.toNatClampNeg b.toNatClampNeg then givT u x.toNatClampNeg a.toNatClampNeg b.toNatClampNeg else u) else u) else u) else u
def delR (u : XS) (k : Int32) : Int32 := if isLe u k then nI (kd u k.toNatClampNeg) else -1
def delS (u : XS) (k : Int32) : XS := if isLe u k then arr u k.toNatClampNeg else u
def letR (u : XS) (k w : Int32) : Int32 := if isLe u k then
  (if w = nI 0 then nI (kd u k.toNatClampNeg) else if w = nI 1 then nI (goT u k.toNatClampNeg) else if w = nI 2 then xLo u k.toNatClampNeg else if w = nI 3 then nI (xAb u k.toNatClampNeg) else if w = nI 4 then rv (xRc u k.toNatClampNeg) else -2) else -1
def clcR (u : XS) (h : Int32) : Int32 := if isHo h then (if (xD u).testBit h.toNatClampNeg then -3 else nI (cn (colL u h.toNatClampNeg))) else -1
def clcS (u : XS) (h : Int32) : XS := if isHo h then (if (xD u).testBit h.toNatClampNeg then u else colS u h.toNatClampNeg) else u
def staR (u : XS) (h : Int32) : Int32 := if isHo h then nI (stay u h.toNatClampNeg) else -1
def oldP (u : XS) (h : Nat) (v : Int32) (a : Nat) : Bool := lvo u a h && !decide (xAg u a < v)
def oldR (u : XS) (h v : Int32) : Int32 := if isHo h then (if v < 0 then -2 else if v ≤ nI 9 then nI (mk (oldP u h.toNatClampNeg v) (xM u)) else -2) else -1
def traR (u : XS) (b : Int32) : Int32 := if isObj u b then (if (xL u).testBit b.toNatClampNeg then (if hel u (clo (backR u) (2 ^ b.toNatClampNeg)) = 0 then nI (cn (clo (backR u) (2 ^ b.toNatClampNeg))) else 0) else -3) else -1
def traS (u : XS) (b : Int32) : XS := if isObj u b then (if (xL u).testBit b.toNatClampNeg then (if hel u (clo (backR u) (2 ^ b.toNatClampNeg)) = 0 then bgo (sro u (clo (backR u) (2 ^ b.toNatClampNeg))) (clo (backR u) (2 ^ b.toNatClampNeg)) else u) else u) else u
def bacR (u : XS) (b w : Int32) : Int32 := if isObj u b then (if w < 0 then -2 else if w ≤ nI 1 then (if (xL u).testBit b.toNatClampNeg then (if w = 0 then nI (clo (backR u) (2 ^ b.toNatClampNeg)) else nI (hel u (clo (backR u) (2 ^ b.toNatClampNeg)))) else -3) else -2) else -1
def kilT (u : XS) (h : Nat) : XS := bgo (sD u (xD u ||| 2 ^ h)) (onH u h)
def kilR (u : XS) (h : Int32) : Int32 := if isHo h then (if (xD u).testBit h.toNatClampNeg then -3 else nI (cn (onH u h.toNatClampNeg))) else -1
def kilS (u : XS) (h : Int32) : XS := if isHo h then (if (xD u).testBit h.toNatClampNeg then u else kilT u h.toNatClampNeg) else u
def held (u : XS) (b : Nat) : Int32 := inL u b + inE u b false
def recO (u : XS) (n : Nat) : Nat → Int32 := fun b => if b < n ∧ (xL u).testBit b = true then held u b else xOu u b
def recR (u : XS) : Int32 := sum (fun b => if (xL u).testBit b then xOu u b - held u b else 0) (xM u)
def recS (u : XS) : XS := sOu u (recO u (xM u))
theorem recO_t {u : XS} {n : Nat} (c : (xL u).testBit n = true) : upd (recO u n) n (held u n) = recO u (n + 1) := by
  funext j
  unfold upd recO
  by_cases e : j = n
  · subst e; simp [c]
  · have h : (j < n + 1) ↔ (j < n) := by omega
    simp [e, h]
theorem recO_f {u : XS} {n : Nat} (c : (xL u).testBit n = false) : recO u n = recO u (n + 1) := by
  funext j
  unfold recO
  by_cases e : j = n
  · subst e; simp [c]
  · have h : (j < n + 1) ↔ (j < n) := by omega
    simp [h]
theorem recO_at (u : XS) (n : Nat) : recO u n n = xOu u n := by unfold recO; simp
def reaX (u : XS) : Nat := rep (ons u) 10 (xL u &&& xR u)
def farP (u : XS) (b k : Nat) : Bool := (rep (ons u) k (xL u &&& xR u)).testBit b
def farR (u : XS) (b : Int32) : Int32 := if isObj u b then (if (xL u).testBit b.toNatClampNeg then (if fa_first (farP u b.toNatClampNeg) 10 < 10 then nI (fa_first (farP u b.toNatClampNeg) 10) else -9) else -3) else -1
theorem fst_at {p : Nat → Bool} {k n : Nat} (h : ∀ j, j < k → p j = false) (hk : p k = true) (hn : k < n) : fa_first p n = k := by
  rcases Nat.lt_trichotomy (fa_first p n) k with q | q | q
  · have := h _ q
    rw [fa_first_yes p n (by omega)] at this
    exact absurd this (by decide)
  · exact q
  · have := fa_first_no p n k q
    rw [hk] at this
    exact absurd this (by decide)
theorem fst_no {p : Nat → Bool} {n : Nat} (h : ∀ j, j < n → p j = false) : ¬ fa_first p n < n := fun q => by
  have := h _ q
  rw [fa_first_yes p n q] at this
  exact absurd this (by decide)
theorem fst_ext {p : Nat → Bool} {k : Nat} (h : ∀ j, j < k → p j = false) (hk : p k = false) : ∀ j, j < k + 1 → p j = false := fun j hj => by
  by_cases e : j = k
  · rw [e]; exact hk
  · exact h j (by omega)
def manR (u : XS) (w : Int32) : Int32 :=
  if w = nI 0 then nI (cn (xL u)) else if w = nI 1 then nI (xW u) else if w = nI 2 then nI (cnt (fun x => decide (xLi u x = 0)) 100) else if w = nI 3 then nI (cnt (fun x => !decide (xLi u x ≤ 0)) 100) else if w = nI 4 then nI 4 - nI (cn (xD u)) else if w = nI 5 then nI (cn (dif (xL u) (reaX u))) else if w = nI 6 then xF u else if w = nI 7 then b2i (bal u) else -2
theorem swO {n : Nat} {hi : Int} {x : Int32} (hh : hi + 1 = (n : Int)) (c : x.toInt < 0 ∨ hi < x.toInt) (hn : n < 2147483648) : ∀ k, k < n → ¬ x = nI k := by
  intro k hk e
  rw [e, nI_toInt (by omega)] at c
  omega
theorem nI_ne {a b : Nat} (h : a ≠ b) (ha : a < 2147483648) (hb : b < 2147483648) : ¬ nI a = nI b := fun e => h ((nI_eq (by omega) (by omega)).mp e)
theorem okB_sD {u : XS} (ok : okB u) {h : Nat} (hh : h < 4) : okB (sD u (xD u ||| 2 ^ h)) :=
  ⟨ok.1, ok.2.1, ok.2.2.1, ok.2.2.2.1, ok.2.2.2.2.1, ok.2.2.2.2.2.1, Nat.or_lt_two_pow (n := 4) ok.2.2.2.2.2.2 (Nat.pow_lt_pow_right (by decide : 1 < 2) hh)⟩
theorem nI_eqL {a b : Nat} (ha : a < 2147483648) (hb : b < 2147483648) : nI a = nI b ↔ a = b := nI_eq (by omega) (by omega)
theorem recR_t {u : XS} {n : Nat} {acc : Int32} (h : acc = sum (fun b => if (xL u).testBit b then xOu u b - held u b else 0) n) (c : (xL u).testBit n = true) : acc + (recO u n n - held u n) = sum (fun b => if (xL u).testBit b then xOu u b - held u b else 0) (n + 1) := lh_sumt h (by rw [recO_at]; simp [c])

/-! THE SETS OF THE REFERENCE ARE THOSE OF THE CLASS -/
theorem onH_bit (u : XS) (h k : Nat) : (onH u h).testBit k = true ↔ k < xM u ∧ (xL u).testBit k = true ∧ xHo u k = h := by
  unfold onH lvo
  rw [mk_bit, Bool.and_eq_true, Bool.and_eq_true, decide_eq_true_eq, decide_eq_true_eq]
theorem lnk_0 {u : XS} {a b : Nat} (h : xLi u (a * 10 + b) = 0) : lnk u a b = true := by
  unfold lnk
  rw [h]
  decide
theorem lnk_f {u : XS} {a b : Nat} (h : lnk u a b = false) : xLi u (a * 10 + b) = -9 := by
  unfold lnk at h
  simpa using h
theorem Inv_lk {T : Nat} {u : XS} (inv : Inv T u) {a b : Nat} (ha : a < 10) (hb : b < 10) (h : lnk u a b = true) : (xL u).testBit a = true ∧ (xL u).testBit b = true ∧ a ≠ b ∧ (xHo u a = xHo u b → xLi u (a * 10 + b) = 0) ∧ (xHo u a ≠ xHo u b → 0 < (xLi u (a * 10 + b)).toInt) := inv.2.2.2.2.1 a b ha hb h
theorem Inv_lM {T : Nat} {u : XS} (inv : Inv T u) {k : Nat} (h : (xL u).testBit k = true) : k < xM u := inv.2.2.1 k h
theorem Inv_rM {T : Nat} {u : XS} (inv : Inv T u) {k : Nat} (h : (xR u).testBit k = true) : k < xM u := inv.2.2.2.1 k h
theorem on_near {T : Nat} {u : XS} (inv : Inv T u) (h : Nat) : clsd (nearR u) (onH u h) := by
  intro a b ha hb h1 h2
  unfold nearR at h2
  have h2 := of_decide_eq_true h2
  obtain ⟨l1, l2, l3, l4, l5⟩ := Inv_lk inv ha hb (lnk_0 h2)
  rw [onH_bit] at h1 ⊢
  refine ⟨Inv_lM inv l2, l2, ?_⟩
  apply Classical.byContradiction
  intro hn
  have := l5 (fun e => hn (e.symm.trans h1.2.2))
  rw [h2] at this
  exact absurd this (by decide)
theorem led_near {T : Nat} {u : XS} (inv : Inv T u) {h X : Nat} (hX : sub X (onH u h)) : clo (ledR u (onH u h)) X = clo (nearR u) X := by
  have hM := inv.1.1
  have hX9 : X < 1024 := sub_lt hX (onH_lt hM h)
  have N := clo_is (R := nearR u) hX9
  have Y := clo_is (R := ledR u (onH u h)) hX9
  have hN : sub (clo (nearR u) X) (onH u h) := N.2.2.2 _ hX (on_near inv h)
  have hYN : sub (clo (ledR u (onH u h)) X) (clo (nearR u) X) := by
    refine Y.2.2.2 _ N.1 (fun a b ha hb h1 h2 => ?_)
    unfold ledR at h2
    rw [Bool.and_eq_true, Bool.and_eq_true, Bool.and_eq_true] at h2
    obtain ⟨⟨⟨h2, h3⟩, h4⟩, h5⟩ := h2
    have o1 := (onH_bit u h a).mp (hN a h1)
    have o2 := (onH_bit u h b).mp h3
    refine N.2.2.1 a b ha hb h1 (decide_eq_true ?_)
    exact (Inv_lk inv ha hb h2).2.2.2.1 (o1.2.2.trans o2.2.2.symm)
  refine sub_anti hYN (N.2.2.2 _ Y.1 (fun a b ha hb h1 h2 => ?_))
  have o1 := hN a (hYN a h1)
  have o2 := on_near inv h a b ha hb o1 h2
  have h3 := of_decide_eq_true h2
  refine Y.2.2.1 a b ha hb h1 ?_
  unfold ledR
  rw [lnk_0 h3, o2, decide_eq_true ((onH_bit u h a).mp o1).1, decide_eq_true ((onH_bit u h b).mp o2).1]
  rfl
theorem seed_bit (u : XS) (h k : Nat) : (seed u h).testBit k = true ↔ k < xM u ∧ lvo u k h = true ∧ ((xR u).testBit k = true ∨ ¬ xOu u k ≤ 0) := by
  unfold seed
  rw [mk_bit, Bool.and_eq_true, Bool.and_eq_true, Bool.or_eq_true]
  simp
theorem seed_on (u : XS) (h : Nat) : sub (seed u h) (onH u h) := fun k hk => by
  have h1 := (seed_bit u h k).mp hk
  unfold onH
  rw [mk_bit, h1.2.1]
  simpa using h1.1
theorem bool_ext {a b : Bool} (h : a = true ↔ b = true) : a = b := by
  cases a <;> cases b
  · rfl
  · exact (h.mpr rfl)
  · exact (h.mp rfl).symm
  · rfl
theorem nat_ext {X Y : Nat} (h : ∀ k, X.testBit k = true ↔ Y.testBit k = true) : X = Y := Nat.eq_of_testBit_eq (fun k => bool_ext (h k))
theorem seed_2 {T : Nat} {u : XS} (inv : Inv T u) (h : Nat) : rtO u (onH u h) ||| mk (fun a => (onH u h).testBit a && !decide (xOu u a ≤ 0)) (xM u) = seed u h := by
  apply nat_ext
  intro k
  rw [seed_bit, Nat.testBit_or, Bool.or_eq_true, rtO, mk_bit, mk_bit, Bool.and_eq_true, Bool.and_eq_true, Bool.and_eq_true, Bool.and_eq_true, onH_bit, decide_eq_true_eq]
  unfold lvo
  rw [Bool.and_eq_true, decide_eq_true_eq]
  constructor
  · rintro (⟨h1, ⟨h2, h3, h4⟩, h5⟩ | ⟨h1, ⟨h2, h3, h4⟩, h5⟩)
    · exact ⟨h1, ⟨h3, h4⟩, Or.inl h5⟩
    · exact ⟨h1, ⟨h3, h4⟩, Or.inr (by simpa using h5)⟩
  · rintro ⟨h1, ⟨h3, h4⟩, h5 | h5⟩
    · exact Or.inl ⟨h1, ⟨h1, h3, h4⟩, h5⟩
    · exact Or.inr ⟨h1, ⟨h1, h3, h4⟩, by simpa using h5⟩
theorem stay_2 {T : Nat} {u : XS} (inv : Inv T u) (h : Nat) : clo (ledR u (onH u h)) (rtO u (onH u h) ||| mk (fun a => (onH u h).testBit a && !decide (xOu u a ≤ 0)) (xM u)) = stay u h := by
  rw [seed_2 inv h, led_near inv (seed_on u h)]
  rfl
theorem and_on (X Y : Nat) : sub (X &&& Y) X := fun k hk => by
  rw [Nat.testBit_and, Bool.and_eq_true] at hk
  exact hk.1
theorem young_2 {T : Nat} {u : XS} (inv : Inv T u) (h : Nat) : clo (ledR u (onH u h)) (rtO u (onH u h)) = clo (nearR u) (onH u h &&& xR u) := by
  rw [rtO_and inv.2.2.2.1, led_near inv (and_on _ _)]
theorem clo_mono {R : Nat → Nat → Bool} {X Y : Nat} (h : sub X Y) (hY : Y < 1024) : sub (clo R X) (clo R Y) :=
  clo_sub (sub_lt h hY) (sub_trans h (clo_is hY).1) (clo_is hY).2.2.1
theorem young_stay {T : Nat} {u : XS} (inv : Inv T u) (h : Nat) : sub (clo (nearR u) (onH u h &&& xR u)) (stay u h) := by
  refine clo_mono (fun k hk => ?_) (sub_lt (seed_on u h) (onH_lt inv.1.1 h))
  rw [Nat.testBit_and, Bool.and_eq_true, onH_bit] at hk
  rw [seed_bit]
  unfold lvo
  rw [Bool.and_eq_true, decide_eq_true_eq]
  exact ⟨hk.1.1, ⟨hk.1.2.1, hk.1.2.2⟩, Or.inl hk.2⟩
/-! folds -/
theorem fol_cong {α : Type} {f g : Nat → α → α} (P : α → Prop) {n : Nat} (h : ∀ i t, i < n → P t → f i t = g i t ∧ P (g i t)) {t : α} (ht : P t) : fol f n t = fol g n t ∧ P (fol g n t) := by
  induction n with
  | zero => exact ⟨rfl, ht⟩
  | succ n ih =>
    obtain ⟨h1, h2⟩ := ih (fun i t hi => h i t (by omega))
    obtain ⟨h3, h4⟩ := h n _ (by omega) h2
    refine ⟨?_, h4⟩
    show f n (fol f n t) = g n (fol g n t)
    rw [h1, h3]
theorem fol_split {α : Type} (f : Nat → α → α) (m n : Nat) (t : α) : fol f (m + n) t = fol (fun i => f (m + i)) n (fol f m t) := by
  induction n with
  | zero => rfl
  | succ n ih =>
    show f (m + n) (fol f (m + n) t) = f (m + n) (fol (fun i => f (m + i)) n (fol f m t))
    rw [ih]
theorem fol_flat {α : Type} (g : Nat → α → α) (k : Nat) (t : α) : fol g (10 * k) t = fol (fun a t => fol (fun b => g (a * 10 + b)) 10 t) k t := by
  induction k with
  | zero => rfl
  | succ k ih =>
    rw [show 10 * (k + 1) = 10 * k + 10 by omega, fol_split, ih]
    show fol (fun i => g (10 * k + i)) 10 _ = fol (fun b => g (k * 10 + b)) 10 _
    rw [Nat.mul_comm 10 k]
theorem fol_trim {α : Type} {f : Nat → α → α} (P : α → Prop) {m n : Nat} (hm : m ≤ n) (h : ∀ i t, m ≤ i → i < n → P t → f i t = t) (hp : ∀ i t, i < n → P t → P (f i t)) {t : α} (ht : P t) : fol f n t = fol f m t := by
  induction n with
  | zero => rw [show m = 0 by omega]
  | succ n ih =>
    by_cases e : m = n + 1
    · rw [e]
    · have ih := ih (by omega) (fun i t h1 h2 => h i t h1 (by omega)) (fun i t h1 => hp i t (by omega))
      show f n (fol f n t) = _
      rw [h n _ (by omega) (by omega) (fol_inv P (fun i t hi hq => hp i t (by omega) hq) ht), ih]
theorem ast_out (st yo : Nat) (f : Nat → Int32) (n : Nat) : ∀ j, n ≤ j → fol (ast st yo) n f j = f j := by
  induction n with
  | zero => exact fun _ _ => rfl
  | succ n ih =>
    intro j hj
    have ih := ih j (by omega)
    show ast st yo n (fol (ast st yo) n f) j = f j
    generalize fol (ast st yo) n f = F at ih ⊢
    unfold ast
    split
    · unfold upd; rw [if_neg (by omega), ih]
    · split
      · unfold upd; rw [if_neg (by omega), ih]
      · exact ih
theorem age_eq {v : Int32} (h : v.toInt ≤ 9) : (nI 9 < v + nI 1) ↔ nI 9 ≤ v := by
  have h9 : (nI 9).toInt = 9 := nI_toInt (by decide)
  have h1 : (nI 1).toInt = 1 := nI_toInt (by decide)
  have hr := fb_rng v
  rw [Int32.lt_iff_toInt_lt, Int32.le_iff_toInt_le, fb_addI (by omega) (by omega), h9, h1]
  omega
theorem as2_ast {st yo : Nat} (h : sub yo st) {f : Nat → Int32} (hf : ∀ j, (f j).toInt ≤ 9) (n : Nat) : fol (as2 st yo) n f = fol (ast st yo) n f := by
  induction n with
  | zero => rfl
  | succ n ih =>
    show as2 st yo n (fol (as2 st yo) n f) = ast st yo n (fol (ast st yo) n f)
    rw [ih]
    have hv : (fol (ast st yo) n f n).toInt ≤ 9 := by rw [ast_out st yo f n n (Nat.le_refl n)]; exact hf n
    generalize fol (ast st yo) n f = F at hv ⊢
    unfold as2 ast
    cases h1 : st.testBit n with
    | false =>
      cases h2 : yo.testBit n with
      | false => rfl
      | true => exact absurd (h n h2) (by rw [h1]; decide)
    | true =>
      cases h2 : yo.testBit n with
      | true => rfl
      | false =>
        simp only [Bool.false_eq_true, if_false, if_true]
        by_cases h3 : nI 9 ≤ F n
        · rw [if_pos h3, if_pos ((age_eq hv).mpr h3)]
        · rw [if_neg h3, if_neg (fun q => h3 ((age_eq hv).mp q))]
theorem ast_9 {st yo : Nat} {f : Nat → Int32} (hf : ∀ j, (f j).toInt ≤ 9) (n : Nat) : ∀ j, (fol (ast st yo) n f j).toInt ≤ 9 := by
  induction n with
  | zero => exact hf
  | succ n ih =>
    intro j
    show (ast st yo n (fol (ast st yo) n f) j).toInt ≤ 9
    unfold ast
    split
    · unfold upd; split
      · decide
      · exact ih j
    · split
      · unfold upd; split
        · split
          · decide
          · rename_i h
            rw [Int32.lt_iff_toInt_lt] at h
            have h9 : (nI 9).toInt = 9 := nI_toInt (by decide)
            omega
        · exact ih j
      · exact ih j
/-- links behind a becoming gone, in one run of a hundred -/
theorem lst_at (x : Nat) (f : Nat → Int32) (n : Nat) : ∀ j, fol (lst x) n f j = if j < n ∧ (x.testBit (j / 10) = true ∨ x.testBit (j % 10) = true) then -9 else f j := by
  induction n with
  | zero => intro j; rw [if_neg (by omega)]; rfl
  | succ n ih =>
    intro j
    show lst x n (fol (lst x) n f) j = _
    by_cases e : j = n
    · subst e
      have hj := ih j
      rw [if_neg (by omega)] at hj
      unfold lst
      by_cases h1 : x.testBit (j / 10) = true
      · rw [if_pos h1, if_pos ⟨by omega, Or.inl h1⟩]; unfold upd; rw [if_pos rfl]
      · by_cases h2 : x.testBit (j % 10) = true
        · rw [if_neg h1, if_pos h2, if_pos ⟨by omega, Or.inr h2⟩]; unfold upd; rw [if_pos rfl]
        · rw [if_neg h1, if_neg h2, if_neg (by rintro ⟨-, q | q⟩ <;> contradiction)]
          exact hj
    · have hs : lst x n (fol (lst x) n f) j = fol (lst x) n f j := by
        unfold lst
        split
        · unfold upd; rw [if_neg e]
        · split
          · unfold upd; rw [if_neg e]
          · rfl
      rw [hs, ih j]
      by_cases h : j < n
      · simp [h, show j < n + 1 by omega]
      · simp [h, show ¬ j < n + 1 by omega]
theorem Inv_un {T : Nat} {u : XS} (inv : Inv T u) {a b : Nat} (ha : a < 10) (hb : b < 10) (h : ¬ a < xM u ∨ ¬ b < xM u) : xLi u (a * 10 + b) = -9 := by
  apply lnk_f
  cases hl : lnk u a b with
  | false => rfl
  | true =>
    have := Inv_lk inv ha hb hl
    have h1 := Inv_lM inv this.1
    have h2 := Inv_lM inv this.2.1
    omega
theorem gli_eq {T : Nat} {u : XS} (inv : Inv T u) (x : Nat) : gli u x = fol (lst x) 100 (xLi u) := by
  have hM := inv.1.1
  have hg : ∀ a f, a < 10 → fol (fun b => lst x (a * 10 + b)) 10 f = grow x a 10 f := by
    intro a f ha
    unfold grow
    refine (fol_cong (fun _ => True) (fun b t hb _ => ⟨?_, trivial⟩) trivial).1
    unfold lst gstep
    rw [show (a * 10 + b) / 10 = a by omega, show (a * 10 + b) % 10 = b by omega]
  let P : (Nat → Int32) → Prop := fun f => ∀ a b, a < 10 → b < 10 → (¬ a < xM u ∨ ¬ b < xM u) → f (a * 10 + b) = -9
  have hP0 : P (xLi u) := fun a b ha hb h => Inv_un inv ha hb h
  have hup : ∀ (f : Nat → Int32) (i : Nat), P f → P (upd f i (-9)) := by
    intro f i hf a b ha hb h
    unfold upd; split
    · rfl
    · exact hf a b ha hb h
  have hsame : ∀ (f : Nat → Int32) (a b : Nat), a < 10 → b < 10 → P f → (¬ a < xM u ∨ ¬ b < xM u) → gstep x a b f = f := by
    intro f a b ha hb hf h
    have : upd f (a * 10 + b) (-9) = f := fa_upd_same (hf a b ha hb h)
    unfold gstep
    rw [this]
    split
    · rfl
    · split <;> rfl
  have hst : ∀ (f : Nat → Int32) (a b : Nat), P f → P (gstep x a b f) := by
    intro f a b hf
    unfold gstep
    split
    · exact hup f _ hf
    · split
      · exact hup f _ hf
      · exact hf
  have hrow : ∀ (f : Nat → Int32) (a : Nat) (n : Nat), P f → P (grow x a n f) := fun f a n hf => fol_inv P (fun b t _ ht => hst t a b ht) hf
  have hrt : ∀ (f : Nat → Int32) (a : Nat), a < 10 → P f → grow x a 10 f = grow x a (xM u) f := by
    intro f a ha hf
    unfold grow
    exact fol_trim P hM (fun b t h1 h2 ht => hsame t a b ha (by omega) ht (Or.inr (by omega))) (fun b t _ ht => hst t a b ht) hf
  rw [show 100 = 10 * 10 by decide, fol_flat]
  unfold gli
  have e1 := fol_cong (f := fun a t => fol (fun b => lst x (a * 10 + b)) 10 t) (g := fun a t => grow x a (xM u) t) P (n := 10) (fun a t ha ht => ⟨by rw [hg a t ha]; exact hrt t a ha ht, hrow t a _ ht⟩) hP0
  rw [e1.1]
  refine (fol_trim P hM (fun a t h1 h2 ht => ?_) (fun a t _ ht => hrow t a _ ht) hP0).symm
  unfold grow
  have : ∀ n, n ≤ 10 → fol (gstep x a) n t = t := by
    intro n
    induction n with
    | zero => exact fun _ => rfl
    | succ n ih =>
      intro hn
      show gstep x a n (fol (gstep x a) n t) = t
      rw [ih (by omega)]
      exact hsame t a n (by omega) (by omega) ht (Or.inl (by omega))
  exact this _ hM
theorem gli_at {T : Nat} {u : XS} (inv : Inv T u) (x : Nat) {a b : Nat} (ha : a < 10) (hb : b < 10) : gli u x (a * 10 + b) = if x.testBit a = true ∨ x.testBit b = true then -9 else xLi u (a * 10 + b) := by
  rw [gli_eq inv, lst_at, show (a * 10 + b) / 10 = a by omega, show (a * 10 + b) % 10 = b by omega]
  simp [show a * 10 + b < 100 by omega]
theorem rst_Li (u : XS) (x : Nat) (r : Bool) (i : Nat) (t : XS) : xLi (rst u x r i t) = xLi t := by
  unfold rst
  split
  · split
    · split
      · rfl
      · split <;> rfl
    · rfl
  · rfl
theorem sro_eq {T : Nat} {u : XS} (inv : Inv T u) {x : Nat} (hx : sub x (xL u)) : fol (rst u x true) 100 u = sro u x := by
  have hM := inv.1.1
  let P : XS → Prop := fun t => xLi t = xLi u
  have hs : ∀ (t : XS) (a b : Nat), a < 10 → b < 10 → P t → rst u x true (a * 10 + b) t = sstep x a b t := by
    intro t a b ha hb ht
    have ht : xLi t = xLi u := ht
    unfold rst sstep
    rw [show (a * 10 + b) / 10 = a by omega, show (a * 10 + b) % 10 = b by omega, if_pos rfl]
    cases h1 : x.testBit a with
    | false => rfl
    | true =>
      simp only [if_true]
      by_cases h2 : xLi t (a * 10 + b) ≤ 0
      · rw [if_pos h2, if_pos h2]; split <;> rfl
      · rw [if_neg h2, if_neg h2]
        have hl : lnk u a b = true := by
          cases hl : lnk u a b with
          | true => rfl
          | false => rw [ht, lnk_f hl] at h2; exact absurd (by decide) h2
        have hL := (Inv_lk inv ha hb hl).2.1
        have hg : (gn u).testBit b = false := by rw [gn_bit, hL]; simp
        rw [Nat.testBit_or, hg, Bool.false_or]
  have hPs : ∀ (t : XS) (a b : Nat), P t → P (sstep x a b t) := fun t a b ht => (sstep_Li x a b t).trans ht
  have hPr : ∀ (t : XS) (a n : Nat), P t → P (srow x a n t) := fun t a n ht => (srow_Li x a n t).trans ht
  have hrow : ∀ (t : XS) (a : Nat), a < 10 → P t → fol (fun b => rst u x true (a * 10 + b)) 10 t = srow x a (xM u) t := by
    intro t a ha ht
    have e1 := fol_cong (f := fun b => rst u x true (a * 10 + b)) (g := sstep x a) P (n := 10) (fun b t hb ht => ⟨hs t a b ha hb ht, hPs t a b ht⟩) ht
    rw [e1.1]
    unfold srow
    refine fol_trim P hM (fun b t h1 h2 ht => ?_) (fun b t _ ht => hPs t a b ht) ht
    have h3 : xLi t (a * 10 + b) = -9 := by rw [show xLi t = xLi u from ht]; exact Inv_un inv ha h2 (Or.inr (by omega))
    unfold sstep
    rw [h3]
    split
    · split
      · rfl
      · rfl
    · rfl
  rw [show 100 = 10 * 10 by decide, fol_flat]
  unfold sro
  have e2 := fol_cong (f := fun a t => fol (fun b => rst u x true (a * 10 + b)) 10 t) (g := fun a t => srow x a (xM u) t) P (n := 10) (fun a t ha ht => ⟨hrow t a ha ht, hPr t a _ ht⟩) (rfl : P u)
  rw [e2.1]
  refine fol_trim P hM (fun a t h1 h2 ht => ?_) (fun a t _ ht => hPr t a _ ht) (rfl : P u)
  have h3 : x.testBit a = false := by
    cases h : x.testBit a with
    | false => rfl
    | true => exact absurd (Inv_lM inv (hx a h)) (by omega)
  have : ∀ n, srow x a n t = t := by
    intro n
    induction n with
    | zero => rfl
    | succ n ih =>
      rw [srow_succ, ih]
      unfold sstep
      rw [h3]
      rfl
  exact this _
theorem rst_none (u : XS) (x n : Nat) (t : XS) : fol (rst u x false) n t = t := by
  induction n with
  | zero => rfl
  | succ n ih => show rst u x false n (fol (rst u x false) n t) = t; rw [ih]; rfl
theorem gn_bgo {T : Nat} {u : XS} (inv : Inv T u) {x : Nat} (hx : sub x (xL u)) : gn u ||| x = gn (bgo u x) := by
  apply nat_ext
  intro k
  rw [Nat.testBit_or, gn_bit, gn_bit, show xM (bgo u x) = xM u from rfl, show xL (bgo u x) = dif (xL u) x from rfl, dif_bit]
  cases h1 : x.testBit k with
  | false => simp
  | true => simp [Inv_lM inv (hx k h1), hx k h1]

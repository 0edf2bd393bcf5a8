/-! WHAT HOLDS OF EVERY STATE, KEPT -/
theorem wt_i {x : Int32} (h : 0 ≤ x.toInt) : (wt x : Int) = x.toInt := by
  show ((x.toInt.toNat : Nat) : Int) = x.toInt
  omega
theorem wt_9 : wt (-9) = 0 := by decide
theorem wt_0 : wt (nI 0) = 0 := by decide
theorem wt_n {n : Nat} (h : n < 2147483648) : wt (nI n) = n := nI_clamp (by omega)
theorem sm_fn (f : Nat → Int32) (i : Nat) (v : Int32) : (fun k => wt (upd f i v k)) = fun k => if k = i then wt v else wt (f k) := by
  funext k; unfold upd; split <;> rfl
theorem sm_upd (f : Nat → Int32) {i n : Nat} (v : Int32) (hi : i < n) : fb_sm (fun k => wt (upd f i v k)) n + wt (f i) = fb_sm (fun k => wt (f k)) n + wt v := by
  rw [sm_fn]
  exact fb_sm_upd (fun k => wt (f k)) (wt v) hi
theorem sm_out (f : Nat → Int32) {i n : Nat} (v : Int32) (hi : n ≤ i) : fb_sm (fun k => wt (upd f i v k)) n = fb_sm (fun k => wt (f k)) n := by
  refine fb_sm_cong (fun k hk => ?_)
  unfold upd; rw [if_neg (by omega)]
theorem sm_cpy {α : Type} (g : α → Nat) (f : Nat → α) {k n : Nat} (hk : k < n) : fb_sm (fun j => g (va_cpy f f (k + 1) k (n - k - 1) j)) (n - 1) + g (f k) = fb_sm (fun j => g (f j)) n := by
  have e1 := fb_sm_split (fun j => g (va_cpy f f (k + 1) k (n - k - 1) j)) k (n - k - 1)
  have e2 := fb_sm_split (fun j => g (f j)) k (1 + (n - k - 1))
  have e3 := fb_sm_split (fun j => g (f (k + j))) 1 (n - k - 1)
  rw [show k + (n - k - 1) = n - 1 by omega] at e1
  rw [show k + (1 + (n - k - 1)) = n by omega] at e2
  have e4 : fb_sm (fun j => g (va_cpy f f (k + 1) k (n - k - 1) j)) k = fb_sm (fun j => g (f j)) k := fb_sm_cong (fun j hj => by unfold va_cpy; rw [if_neg (by omega)])
  have e5 : fb_sm (fun j => g (va_cpy f f (k + 1) k (n - k - 1) (k + j))) (n - k - 1) = fb_sm (fun j => g (f (k + (1 + j)))) (n - k - 1) := fb_sm_cong (fun j hj => by
    unfold va_cpy
    rw [if_pos (by omega), show k + 1 + (k + j - k) = k + (1 + j) by omega])
  have e6 : fb_sm (fun j => g (f (k + j))) 1 = g (f k) := by
    show 0 + g (f (k + 0)) = _
    rw [Nat.zero_add]; rfl
  omega
theorem tot_app (u : XS) (b a : Nat) (w : Int32) : tot (app u b a w) = tot u + wt w := by
  unfold tot
  show fb_sm (fun i => wt (xLi u i)) 100 + fb_sm (fun k => wt (upd (xLo u) (xW u) w k)) (xW u + 1) = _
  rw [fb_sm_succ (fun k => wt (upd (xLo u) (xW u) w k)) (xW u), sm_out (xLo u) w (Nat.le_refl _), show upd (xLo u) (xW u) w (xW u) = w from pk_us]
  omega
theorem tot_tak (u : XS) {k : Nat} (hk : k < xW u) : tot (tak u k) + wt (xLo u k) = tot u := by
  unfold tot
  show fb_sm (fun i => wt (xLi u i)) 100 + fb_sm (fun j => wt (va_cpy (xLo u) (xLo u) (k + 1) k (xW u - k - 1) j)) (xW u - 1) + wt (xLo u k) = _
  have := sm_cpy wt (xLo u) hk
  omega
theorem tot_li (u : XS) {i : Nat} (v : Int32) (hi : i < 100) : tot (sLi u (upd (xLi u) i v)) + wt (xLi u i) = tot u + wt v := by
  unfold tot
  show fb_sm (fun k => wt (upd (xLi u) i v k)) 100 + fb_sm (fun k => wt (xLo u k)) (xW u) + wt (xLi u i) = _
  have := sm_upd (xLi u) v hi
  omega
theorem tot_lk (u : XS) {i : Nat} (hi : i < 100) : wt (xLi u i) ≤ tot u := by
  unfold tot
  have := fb_sm_part (fun i => wt (xLi u i)) hi
  omega
theorem Inv_mono {T T' : Nat} {u : XS} (inv : Inv T u) (h : tot u ≤ T') : Inv T' u :=
  ⟨inv.1, inv.2.1, inv.2.2.1, inv.2.2.2.1, inv.2.2.2.2.1, inv.2.2.2.2.2.1, inv.2.2.2.2.2.2.1, h⟩
theorem Inv_tot {T : Nat} {u : XS} (inv : Inv T u) : tot u ≤ T := inv.2.2.2.2.2.2.2
theorem Inv_le {T : Nat} {u : XS} (inv : Inv T u) {k : Nat} (hk : k < xW u) : xAb u k < xM u ∧ (xRc u k < 10 → xRc u k < xM u ∧ xRc u k ≠ xAb u k) ∧ 0 < (xLo u k).toInt := inv.2.2.2.2.2.1 k hk
theorem Inv_sOu {T : Nat} {u : XS} (inv : Inv T u) (f : Nat → Int32) : Inv T (sOu u f) := inv
theorem Inv_app {T T' : Nat} {u : XS} {b a : Nat} {w : Int32} (inv : Inv T u) (hb : b < xM u) (ha : a < 10 → a < xM u ∧ a ≠ b) (hw : 0 < w.toInt) (hW : xW u + 1 + 9 * cn (xL u) ≤ 60 + 9 * xM u) (hT : tot u + wt w ≤ T') : Inv T' (app u b a w) := by
  obtain ⟨ok, h2, h3, h4, h5, h6, h7, h8⟩ := inv
  have hM := ok.1
  refine ⟨okB_app ok (by omega) (by omega), hW, h3, h4, h5, fun k hk => ?_, h7, by rw [tot_app]; exact hT⟩
  have hk : k < xW u + 1 := hk
  show va_up (xAb u) (xW u) b k < xM u ∧ (va_up (xRc u) (xW u) a k < 10 → va_up (xRc u) (xW u) a k < xM u ∧ va_up (xRc u) (xW u) a k ≠ va_up (xAb u) (xW u) b k) ∧ 0 < (upd (xLo u) (xW u) w k).toInt
  unfold va_up upd
  by_cases e : k = xW u
  · rw [if_pos e, if_pos e, if_pos e]
    exact ⟨hb, ha, hw⟩
  · rw [if_neg e, if_neg e, if_neg e]
    exact h6 k (by omega)
theorem Inv_tak {T : Nat} {u : XS} (inv : Inv T u) {k : Nat} (hk : k < xW u) : Inv T (tak u k) := by
  have ht := tot_tak u hk
  obtain ⟨ok, h2, h3, h4, h5, h6, h7, h8⟩ := inv
  refine ⟨okB_tak ok k, ?_, h3, h4, h5, fun j hj => ?_, h7, by omega⟩
  · show xW u - 1 + 9 * cn (xL u) ≤ _
    have : xM (tak u k) = xM u := rfl
    omega
  · have hj : j < xW u - 1 := hj
    show va_cpy (xAb u) (xAb u) (k + 1) k (xW u - k - 1) j < xM u ∧ (va_cpy (xRc u) (xRc u) (k + 1) k (xW u - k - 1) j < 10 → va_cpy (xRc u) (xRc u) (k + 1) k (xW u - k - 1) j < xM u ∧ va_cpy (xRc u) (xRc u) (k + 1) k (xW u - k - 1) j ≠ va_cpy (xAb u) (xAb u) (k + 1) k (xW u - k - 1) j) ∧ 0 < (va_cpy (xLo u) (xLo u) (k + 1) k (xW u - k - 1) j).toInt
    unfold va_cpy
    by_cases e : k ≤ j ∧ j < k + (xW u - k - 1)
    · rw [if_pos e, if_pos e, if_pos e]
      exact h6 _ (by omega)
    · rw [if_neg e, if_neg e, if_neg e]
      exact h6 j (by omega)
/-- a link gets another weight -/
theorem Inv_li {T T' : Nat} {u : XS} (inv : Inv T u) {a b : Nat} {v : Int32} (ha : a < 10) (hb : b < 10) (hv : v = -9 ∨ ((xL u).testBit a = true ∧ (xL u).testBit b = true ∧ a ≠ b ∧ (xHo u a = xHo u b → v = 0) ∧ (xHo u a ≠ xHo u b → 0 < v.toInt))) (hT : tot (sLi u (upd (xLi u) (a * 10 + b) v)) ≤ T') : Inv T' (sLi u (upd (xLi u) (a * 10 + b) v)) := by
  obtain ⟨ok, h2, h3, h4, h5, h6, h7, h8⟩ := inv
  refine ⟨ok, h2, h3, h4, fun a' b' ha' hb' hl => ?_, h6, h7, hT⟩
  by_cases e : a' * 10 + b' = a * 10 + b
  · have e1 : a' = a := by omega
    have e2 : b' = b := by omega
    subst e1; subst e2
    have ev : xLi (sLi u (upd (xLi u) (a' * 10 + b') v)) (a' * 10 + b') = v := pk_us
    unfold lnk at hl
    rw [ev] at hl ⊢
    rcases hv with q | q
    · rw [q] at hl; exact absurd hl (by decide)
    · exact q
  · have ev : xLi (sLi u (upd (xLi u) (a * 10 + b) v)) (a' * 10 + b') = xLi u (a' * 10 + b') := pk_un e
    unfold lnk at hl
    rw [ev] at hl ⊢
    exact h5 a' b' ha' hb' hl
theorem Inv_ag {T : Nat} {u : XS} (inv : Inv T u) {f : Nat → Int32} (h : ∀ k, (f k).toInt ≤ 9) : Inv T (sAg u f) :=
  ⟨inv.1, inv.2.1, inv.2.2.1, inv.2.2.2.1, inv.2.2.2.2.1, inv.2.2.2.2.2.1, h, inv.2.2.2.2.2.2.2⟩
theorem nbr_t {u : XS} {a b : Nat} (h : nbr u a b = true) : xHo u a = xHo u b := of_decide_eq_true h
theorem nbr_f {u : XS} {a b : Nat} (h : nbr u a b = false) : xHo u a ≠ xHo u b := of_decide_eq_false h
theorem Inv_adL {T T' : Nat} {u : XS} (inv : Inv T u) {a b : Nat} {w : Int32} (la : (xL u).testBit a = true) (lb : (xL u).testBit b = true) (hab : a ≠ b) (hn : nbr u a b = true → w = nI 0) (hf : nbr u a b = false → 0 < w.toInt) (hT : tot u + wt w ≤ T') (hT' : T' ≤ 1000000) : Inv T' (adL u a b w) := by
  have hM := inv.1.1
  have ha : a < 10 := by have := Inv_lM inv la; omega
  have hb : b < 10 := by have := Inv_lM inv lb; omega
  have hti := tot_li u (i := a * 10 + b) (if lnk u a b then xLi u (a * 10 + b) + w else w) (by omega)
  have hle := tot_lk u (i := a * 10 + b) (by omega)
  have h7 := inv.2.2.2.2.2.2.1
  have key : Inv T' (sLi u (upd (xLi u) (a * 10 + b) (if lnk u a b then xLi u (a * 10 + b) + w else w))) := by
    cases hl : lnk u a b with
    | false =>
      rw [hl] at hti
      simp only [Bool.false_eq_true, if_false] at hti ⊢
      rw [lnk_f hl, wt_9] at hti
      refine Inv_li inv ha hb (Or.inr ⟨la, lb, hab, fun e => ?_, fun e => ?_⟩) (by omega)
      · exact (hn (decide_eq_true e)).trans nI_0
      · exact hf (decide_eq_false e)
    | true =>
      rw [hl] at hti
      simp only [if_true] at hti ⊢
      obtain ⟨-, -, -, q1, q2⟩ := Inv_lk inv ha hb hl
      cases hnb : nbr u a b with
      | true =>
        have e0 := q1 (nbr_t hnb)
        have ew := hn hnb
        rw [e0, ew] at hti ⊢
        rw [show (0 : Int32) + nI 0 = 0 by decide] at hti ⊢
        refine Inv_li inv ha hb (Or.inr ⟨la, lb, hab, fun _ => rfl, fun e => absurd (nbr_t hnb) e⟩) (by omega)
      | false =>
        have p1 := q2 (nbr_f hnb)
        have p2 := hf hnb
        have w1 := wt_i (x := xLi u (a * 10 + b)) (by omega)
        have w2 := wt_i (x := w) (by omega)
        have e3 : (xLi u (a * 10 + b) + w).toInt = (xLi u (a * 10 + b)).toInt + w.toInt := fb_addI (by omega) (by omega)
        have w3 := wt_i (x := xLi u (a * 10 + b) + w) (by omega)
        refine Inv_li inv ha hb (Or.inr ⟨la, lb, hab, fun e => absurd e (nbr_f hnb), fun _ => by omega⟩) (by omega)
  have hag : ∀ k, ((if lnk u a b then xAg u else upd (xAg u) b (nI 0)) k).toInt ≤ 9 := by
    intro k
    split
    · exact h7 k
    · unfold upd; split
      · decide
      · exact h7 k
  exact Inv_ag key hag
theorem spl_nums {T : Nat} {u : XS} (inv : Inv T u) {x b : Nat} (hx : x < 10) (hb : b < 10) (hl : lnk u x b = true) (hn : nbr u x b = false) (hT : tot u + 64 ≤ 1000000) :
    0 < (splR u x b).toInt ∧ 0 < (splW u x b - splR u x b).toInt ∧ wt (splW u x b - splR u x b) + wt (splR u x b) ≤ wt (xLi u (x * 10 + b)) + 64 := by
  have p1 := (Inv_lk inv hx hb hl).2.2.2.2 (nbr_f hn)
  have w1 := wt_i (x := xLi u (x * 10 + b)) (by omega)
  have hle := tot_lk u (i := x * 10 + b) (by omega)
  have hW : ∃ j : Nat, 2 ≤ j ∧ j < 2147483648 ∧ splW u x b = nI j ∧ j ≤ wt (xLi u (x * 10 + b)) + 64 := by
    unfold splW
    obtain ⟨j, hj, ej⟩ := nI_of (x := xLi u (x * 10 + b)) (by rw [Int32.lt_iff_toInt_lt]; show ¬ _ < (0 : Int); omega)
    have hj2 : (j : Int) = (xLi u (x * 10 + b)).toInt := by rw [ej, nI_toInt hj]
    by_cases e : xLi u (x * 10 + b) = nI 1
    · rw [if_pos e, e]
      exact ⟨65, by omega, by omega, by decide, by have := wt_n (n := 1) (by decide); omega⟩
    · rw [if_neg e]
      have h1 : j ≠ 1 := fun q => e (by rw [ej, q])
      exact ⟨j, by omega, by omega, ej, by omega⟩
  obtain ⟨j, h2, h3, h4, h5⟩ := hW
  have hR : splR u x b = nI (j / 2) := by
    unfold splR
    rw [h4]
    exact pk_div (by omega) (by decide) (by decide)
  rw [hR, h4, pk_sub (by omega), nI_toInt (by omega), nI_toInt (by omega), wt_n (by omega), wt_n (by omega)]
  omega
theorem Inv_spl {T : Nat} {u : XS} (inv : Inv T u) {x b : Nat} (hx : x < 10) (hb : b < 10) (hl : lnk u x b = true) (hn : nbr u x b = false) (hT : tot u + 64 ≤ 1000000) : Inv (tot (splS u x b)) (splS u x b) ∧ tot (splS u x b) + wt (splR u x b) ≤ tot u + 64 := by
  obtain ⟨q1, q2, q3⟩ := spl_nums inv hx hb hl hn hT
  have hti := tot_li u (i := x * 10 + b) (splW u x b - splR u x b) (by omega)
  obtain ⟨l1, l2, l3, l4, l5⟩ := Inv_lk inv hx hb hl
  have key := Inv_li (T' := tot (sLi u (upd (xLi u) (x * 10 + b) (splW u x b - splR u x b)))) inv hx hb (Or.inr ⟨l1, l2, l3, fun e => absurd e (nbr_f hn), fun _ => q2⟩) (Nat.le_refl _)
  refine ⟨key, ?_⟩
  show tot (sLi u (upd (xLi u) (x * 10 + b) (splW u x b - splR u x b))) + _ ≤ _
  omega
/-! what each call does to it -/
theorem Inv_arr {T : Nat} {u : XS} (inv : Inv T u) {k : Nat} (hk : k < xW u) (hT : T ≤ 1000000) : Inv T (arr u k) := by
  have it := Inv_tak inv hk
  have ht := tot_tak u hk
  have hT9 := Inv_tot inv
  obtain ⟨l1, l2, l3⟩ := Inv_le inv hk
  have hW := inv.2.1
  unfold arr
  split
  · rename_i ha
    obtain ⟨l4, l5⟩ := l2 ha
    unfold gra
    split
    · exact it
    · split
      · rename_i lb
        split
        · rename_i hn
          split
          · rename_i la
            exact Inv_adL (Inv_sOu it _) la lb l5 (fun _ => rfl) (fun q => absurd hn (by rw [show nbr (tak u k) (xRc u k) (xAb u k) = false from q]; decide)) (by rw [wt_0]; show tot (tak u k) + 0 ≤ T; omega) hT
          · exact Inv_sOu it _
        · rename_i hn
          have hn : nbr (tak u k) (xRc u k) (xAb u k) = false := by simpa using hn
          split
          · rename_i la
            exact Inv_adL it la lb l5 (fun q => absurd q (by rw [hn]; decide)) (fun _ => l3) (by omega) hT
          · exact Inv_app it l1 (fun q => absurd q (by decide)) l3 (by show xW u - 1 + 1 + 9 * cn (xL u) ≤ 60 + 9 * xM u; omega) (by omega)
      · exact it
  · split
    · exact Inv_sOu it _
    · exact it
theorem Inv_dst {T : Nat} {u : XS} (inv : Inv T u) (hT : T ≤ 1000000) : Inv T (dst u) := by
  unfold dst
  split
  · exact inv
  · exact Inv_arr inv (by omega) hT
theorem Inv_rep {T : Nat} {u : XS} (inv : Inv T u) (hT : T ≤ 1000000) (n : Nat) : Inv T (rep dst n u) := by
  induction n with
  | zero => exact inv
  | succ n ih => exact Inv_dst ih hT
theorem pos_of {x : Int32} (h : ¬ x ≤ 0) : 0 < x.toInt := by
  rw [Int32.le_iff_toInt_le] at h
  have : ((0 : Int32)).toInt = 0 := by decide
  omega
/-- letters behind a sending of returns -/
def ltO (u t : XS) : Prop := ∀ k, k < xW t → xAb t k < xM u ∧ (xRc t k < 10 → xRc t k < xM u ∧ xRc t k ≠ xAb t k) ∧ 0 < (xLo t k).toInt
theorem ltO_rst {T : Nat} {u : XS} (inv : Inv T u) (x : Nat) (r : Bool) (n : Nat) (hn : n ≤ 100) : ltO u (fol (rst u x r) n u) := by
  have h := fol_inv (f := rst u x r) (fun t => xLi t = xLi u ∧ ltO u t) (n := n) (fun i t hi ht => ⟨(rst_Li u x r i t).trans ht.1, ?_⟩) (t := u) ⟨rfl, fun k hk => Inv_le inv hk⟩
  · exact h.2
  · unfold rst
    split
    · split
      · split
        · exact ht.2
        · rename_i hp
          split
          · exact ht.2
          · rw [ht.1] at hp ⊢
            have hl : lnk u (i / 10) (i % 10) = true := by
              cases q : lnk u (i / 10) (i % 10) with
              | true => rfl
              | false =>
                have := lnk_f q
                rw [show i / 10 * 10 + i % 10 = i by omega] at this
                rw [this] at hp
                exact absurd (by decide) hp
            have hb := Inv_lM inv (Inv_lk inv (by omega) (by omega) hl).2.1
            intro k hk
            have hk : k < xW t + 1 := hk
            show va_up (xAb t) (xW t) (i % 10) k < xM u ∧ (va_up (xRc t) (xW t) 10 k < 10 → va_up (xRc t) (xW t) 10 k < xM u ∧ va_up (xRc t) (xW t) 10 k ≠ va_up (xAb t) (xW t) (i % 10) k) ∧ 0 < (upd (xLo t) (xW t) (xLi u i) k).toInt
            unfold va_up upd
            by_cases e : k = xW t
            · rw [if_pos e, if_pos e, if_pos e]
              exact ⟨hb, fun q => absurd q (by decide), pos_of hp⟩
            · rw [if_neg e, if_neg e, if_neg e]
              exact ht.2 k (by omega)
      · exact ht.2
    · exact ht.2
theorem bec_tot (u : XS) (x : Nat) (r : Bool) (n : Nat) (hn : n ≤ 100) : fb_sm (fun i => wt (fol (lst x) n (xLi u) i)) 100 + fb_sm (fun k => wt (xLo (fol (rst u x r) n u) k)) (xW (fol (rst u x r) n u)) ≤ tot u := by
  induction n with
  | zero => exact Nat.le_refl _
  | succ n ih =>
    have ih := ih (by omega)
    have hF : fol (lst x) n (xLi u) n = xLi u n := by rw [lst_at, if_neg (by omega)]
    have hS : xLi (fol (rst u x r) n u) = xLi u := rsf_Li u x r n u
    rw [ls_step, rs_step]
    generalize fol (lst x) n (xLi u) = F at ih hF ⊢
    generalize fol (rst u x r) n u = t at ih hS ⊢
    have hup := sm_upd F (i := n) (n := 100) (-9) (by omega)
    rw [hF, wt_9] at hup
    have hsend : fb_sm (fun k => wt (xLo (app t (n % 10) 10 (xLi t n)) k)) (xW (app t (n % 10) 10 (xLi t n))) = fb_sm (fun k => wt (xLo t k)) (xW t) + wt (xLi u n) := by
      have e := tot_app t (n % 10) 10 (xLi t n)
      unfold tot at e
      rw [show xLi (app t (n % 10) 10 (xLi t n)) = xLi t from rfl] at e
      rw [hS] at e ⊢
      omega
    unfold lst rst
    cases h1 : x.testBit (n / 10) with
    | true =>
      simp only [if_true]
      split
      · split
        · omega
        · split
          · omega
          · rw [hsend]; omega
      · omega
    | false =>
      simp only [Bool.false_eq_true, if_false]
      split <;> split <;> omega
theorem Inv_bec {T : Nat} {u : XS} (inv : Inv T u) {x : Nat} (hx : sub x (xL u)) (r : Bool) : Inv T (becS u x r) := by
  have hM := inv.1.1
  have hT := Inv_tot inv
  have hb := bec_tot u x r 100 (Nat.le_refl _)
  have hl := ltO_rst inv x r 100 (Nat.le_refl _)
  have hcd := cn_dif hx
  have hW := inv.2.1
  have hcL := cn_le (xL u)
  have key : ∀ s, s = fol (rst u x r) 100 u → sroK u s → xW s ≤ xW u + 9 * cn x → becS u x r = bgo s x → Inv T (becS u x r) := by
    intro s es hs hWs eb
    rw [eb]
    rw [← es] at hb hl
    obtain ⟨h1, h2, h3, h4, h5, h6, h7, h8, h9, h10, h11⟩ := hs
    have eg : gli s x = gli u x := by unfold gli; rw [h1, h9]
    obtain ⟨ok, i2, i3, i4, i5, i6, i7, i8⟩ := id inv
    obtain ⟨a1, a2, a3, a4, a5, a6, a7⟩ := ok
    have hL9 : ∀ k, (xL (bgo s x)).testBit k = true → (xL u).testBit k = true ∧ x.testBit k = false := by
      intro k hk
      have hk : (dif (xL s) x).testBit k = true := hk
      rw [h2, dif_bit, Bool.and_eq_true] at hk
      exact ⟨hk.1, by simpa using hk.2⟩
    refine ⟨okB_bgo (u := s) ⟨by rw [h1]; exact a1, by omega, by rw [h6]; exact a3, h11 a4, by rw [h2]; exact a5, by rw [h3]; exact a6, by rw [h4]; exact a7⟩ x, ?_, ?_, ?_, ?_, ?_, ?_, ?_⟩
    · show xW s + 9 * cn (dif (xL s) x) ≤ 60 + 9 * xM s
      rw [h1, h2]
      omega
    · intro k hk
      show k < xM s
      rw [h1]
      exact i3 k (hL9 k hk).1
    · intro k hk
      show k < xM s
      rw [h1]
      exact i4 k (by rw [← h3]; exact hk)
    · intro a b ha hb2 hlk
      have ev : xLi (bgo s x) (a * 10 + b) = if x.testBit a = true ∨ x.testBit b = true then -9 else xLi u (a * 10 + b) := by
        show gli s x (a * 10 + b) = _
        rw [eg, gli_at inv x ha hb2]
      by_cases q : x.testBit a = true ∨ x.testBit b = true
      · rw [if_pos q] at ev
        unfold lnk at hlk
        rw [ev] at hlk
        exact absurd hlk (by decide)
      · rw [if_neg q] at ev
        have hlk2 : lnk u a b = true := by unfold lnk at hlk ⊢; rw [ev] at hlk; exact hlk
        obtain ⟨j1, j2, j3, j4, j5⟩ := i5 a b ha hb2 hlk2
        rw [ev]
        have eh : xHo (bgo s x) = xHo u := h6
        rw [eh]
        refine ⟨?_, ?_, j3, j4, j5⟩
        · show (dif (xL s) x).testBit a = true
          rw [h2, dif_bit, j1]
          simp; exact Bool.eq_false_iff.mpr (fun z => q (Or.inl z))
        · show (dif (xL s) x).testBit b = true
          rw [h2, dif_bit, j2]
          simp; exact Bool.eq_false_iff.mpr (fun z => q (Or.inr z))
    · intro k hk
      show _ < xM s ∧ (_ → _ < xM s ∧ _) ∧ _
      rw [h1]
      exact hl k hk
    · intro k
      show (xAg s k).toInt ≤ 9
      rw [h8]
      exact i7 k
    · have e2 : tot (bgo s x) = fb_sm (fun i => wt (fol (lst x) 100 (xLi u) i)) 100 + fb_sm (fun k => wt (xLo s k)) (xW s) := by
        unfold tot
        show fb_sm (fun i => wt (gli s x i)) 100 + _ = _
        rw [eg, gli_eq inv]
        rfl
      rw [e2]
      omega
  cases r with
  | false => exact key u (rst_none u x 100 u).symm (sroK_refl u) (Nat.le_add_right _ _) rfl
  | true => exact key (sro u x) (sro_eq inv hx).symm (sroK_all x hM) (sro_W hM) rfl
theorem Inv_sD {T : Nat} {u : XS} (inv : Inv T u) {h : Nat} (hh : h < 4) : Inv T (sD u (xD u ||| 2 ^ h)) :=
  ⟨okB_sD inv.1 hh, inv.2⟩
theorem Inv_colS {T : Nat} {u : XS} (inv : Inv T u) (h : Nat) : Inv T (colS u h) := Inv_bec (u := colG u h) (Inv_grw inv _ _) (colL_sub u h) true

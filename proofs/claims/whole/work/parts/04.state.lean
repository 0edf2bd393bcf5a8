/-! THE STATE, the same for both: made, live, roots, dead, waiting, filled; host, out, age, links; about, receiver, load -/
abbrev XS : Type := Nat × Nat × Nat × Nat × Nat × Int32 × (Nat → Nat) × (Nat → Int32) × (Nat → Int32) × (Nat → Int32) × (Nat → Nat) × (Nat → Nat) × (Nat → Int32)
abbrev xM (u : XS) : Nat := u.1
abbrev xL (u : XS) : Nat := u.2.1
abbrev xR (u : XS) : Nat := u.2.2.1
abbrev xD (u : XS) : Nat := u.2.2.2.1
abbrev xW (u : XS) : Nat := u.2.2.2.2.1
abbrev xF (u : XS) : Int32 := u.2.2.2.2.2.1
abbrev xHo (u : XS) : Nat → Nat := u.2.2.2.2.2.2.1
abbrev xOu (u : XS) : Nat → Int32 := u.2.2.2.2.2.2.2.1
abbrev xAg (u : XS) : Nat → Int32 := u.2.2.2.2.2.2.2.2.1
abbrev xLi (u : XS) : Nat → Int32 := u.2.2.2.2.2.2.2.2.2.1
abbrev xAb (u : XS) : Nat → Nat := u.2.2.2.2.2.2.2.2.2.2.1
abbrev xRc (u : XS) : Nat → Nat := u.2.2.2.2.2.2.2.2.2.2.2.1
abbrev xLo (u : XS) : Nat → Int32 := u.2.2.2.2.2.2.2.2.2.2.2.2
abbrev sM (u : XS) (v : Nat) : XS := (v, xL u, xR u, xD u, xW u, xF u, xHo u, xOu u, xAg u, xLi u, xAb u, xRc u, xLo u)
abbrev sL (u : XS) (v : Nat) : XS := (xM u, v, xR u, xD u, xW u, xF u, xHo u, xOu u, xAg u, xLi u, xAb u, xRc u, xLo u)
abbrev sR (u : XS) (v : Nat) : XS := (xM u, xL u, v, xD u, xW u, xF u, xHo u, xOu u, xAg u, xLi u, xAb u, xRc u, xLo u)
abbrev sD (u : XS) (v : Nat) : XS := (xM u, xL u, xR u, v, xW u, xF u, xHo u, xOu u, xAg u, xLi u, xAb u, xRc u, xLo u)
abbrev sW (u : XS) (v : Nat) : XS := (xM u, xL u, xR u, xD u, v, xF u, xHo u, xOu u, xAg u, xLi u, xAb u, xRc u, xLo u)
abbrev sF (u : XS) (v : Int32) : XS := (xM u, xL u, xR u, xD u, xW u, v, xHo u, xOu u, xAg u, xLi u, xAb u, xRc u, xLo u)
abbrev sHo (u : XS) (v : Nat → Nat) : XS := (xM u, xL u, xR u, xD u, xW u, xF u, v, xOu u, xAg u, xLi u, xAb u, xRc u, xLo u)
abbrev sOu (u : XS) (v : Nat → Int32) : XS := (xM u, xL u, xR u, xD u, xW u, xF u, xHo u, v, xAg u, xLi u, xAb u, xRc u, xLo u)
abbrev sAg (u : XS) (v : Nat → Int32) : XS := (xM u, xL u, xR u, xD u, xW u, xF u, xHo u, xOu u, v, xLi u, xAb u, xRc u, xLo u)
abbrev sLi (u : XS) (v : Nat → Int32) : XS := (xM u, xL u, xR u, xD u, xW u, xF u, xHo u, xOu u, xAg u, v, xAb u, xRc u, xLo u)
abbrev sAb (u : XS) (v : Nat → Nat) : XS := (xM u, xL u, xR u, xD u, xW u, xF u, xHo u, xOu u, xAg u, xLi u, v, xRc u, xLo u)
abbrev sRc (u : XS) (v : Nat → Nat) : XS := (xM u, xL u, xR u, xD u, xW u, xF u, xHo u, xOu u, xAg u, xLi u, xAb u, v, xLo u)
abbrev sLo (u : XS) (v : Nat → Int32) : XS := (xM u, xL u, xR u, xD u, xW u, xF u, xHo u, xOu u, xAg u, xLi u, xAb u, xRc u, v)
/-- an object, or NONE (10 here) -/
def rv (n : Nat) : Int32 := if n < 10 then nI n else -9
theorem rv_lt {k : Nat} (h : k < 10) : rv k = nI k := if_pos h
theorem rv_ge {k : Nat} (h : ¬ k < 10) : rv k = -9 := if_neg h
theorem rv_10 : rv 10 = -9 := rfl
theorem rv_no : ∀ k, k < 10 → nI k ≠ -9 := by decide +kernel
theorem rv_eq9 {k : Nat} (h : rv k = -9) : ¬ k < 10 := fun hk => rv_no k hk ((rv_lt hk).symm.trans h)
theorem rv_ne9 {k : Nat} (h : ¬ rv k = -9) : k < 10 := by
  by_cases hk : k < 10
  · exact hk
  · exact absurd (rv_ge hk) h
def wX (cI : ClassId) (ad : Nat → Nat) (u : XS) : va_W := [(ad 0, .inr (1, [.ref (ad 1), .ref (ad 2), .ref (ad 3), .ref (ad 4), .ref (ad 5), .int (nI (xM u)), .int (nI (xL u)), .int (nI (xR u)), .int (nI (xD u)), .int (xF u)])), (ad 1, .inl (cI, 10, .inl (fun k => nI (xHo u k)))), (ad 2, .inl (cI, 10, .inl (xOu u))), (ad 3, .inl (cI, 10, .inl (xAg u))), (ad 4, .inl (cI, 100, .inl (xLi u))), (ad 5, .inr (0, [.ref (ad 6), .ref (ad 7), .ref (ad 8), .int (nI (xW u))])), (ad 6, .inl (cI, 150, .inl (fun k => nI (xAb u k)))), (ad 7, .inl (cI, 150, .inl (fun k => rv (xRc u k)))), (ad 8, .inl (cI, 150, .inl (xLo u)))]
/-- the reference's world, with its own gone and roots -/
def wG (cI cZ : ClassId) (bd : Nat → Nat) (u : XS) (g : Nat) (ro : Nat → Bool) : va_W := [(bd 0, .inr (2, [.int (nI (xD u)), .int (nI (xM u)), .ref (bd 1), .ref (bd 2), .int (nI g), .ref (bd 3), .ref (bd 4), .ref (bd 5), .int (nI (xW u)), .ref (bd 6), .ref (bd 7), .ref (bd 8), .int (xF u)])), (bd 1, .inl (cI, 10, .inl (fun k => nI (xHo u k)))), (bd 2, .inl (cZ, 10, .inl (fun k => b2i (ro k)))), (bd 3, .inl (cI, 10, .inl (xOu u))), (bd 4, .inl (cI, 10, .inl (xAg u))), (bd 5, .inl (cI, 100, .inl (xLi u))), (bd 6, .inl (cI, 512, .inl (fun k => nI (xAb u k)))), (bd 7, .inl (cI, 512, .inl (fun k => rv (xRc u k)))), (bd 8, .inl (cI, 512, .inl (xLo u)))]
/-- a set less another -/
def dif (a b : Nat) : Nat := a ^^^ (a &&& b)
theorem dif_bit (a b k : Nat) : (dif a b).testBit k = (a.testBit k && !(b.testBit k)) := by
  unfold dif
  rw [Nat.testBit_xor, Nat.testBit_and]
  cases a.testBit k <;> cases b.testBit k <;> rfl
/-- those that are gone -/
def gn (u : XS) : Nat := dif (2 ^ xM u - 1) (xL u)
theorem gn_bit (u : XS) (k : Nat) : (gn u).testBit k = (decide (k < xM u) && !((xL u).testBit k)) := by
  unfold gn
  rw [dif_bit, Nat.testBit_two_pow_sub_one]
abbrev wM (cI cZ : ClassId) (bd : Nat → Nat) (u : XS) : va_W := wG cI cZ bd u (gn u) (fun k => (xR u).testBit k)
/-- the set of those below n of which p says so -/
def mk (p : Nat → Bool) : Nat → Nat
  | 0 => 0
  | n + 1 => mk p n ||| (if p n then 2 ^ n else 0)
theorem mk_t {p : Nat → Bool} {n : Nat} (h : p n = true) : mk p (n + 1) = mk p n ||| 2 ^ n := by simp [mk, h]
theorem mk_f {p : Nat → Bool} {n : Nat} (h : p n = false) : mk p (n + 1) = mk p n := by simp [mk, h]
theorem mk_bit (p : Nat → Bool) (n k : Nat) : (mk p n).testBit k = (decide (k < n) && p k) := by
  induction n with
  | zero => simp [mk]
  | succ n ih =>
    rw [mk, Nat.testBit_or, ih]
    cases h : p n with
    | true =>
      rw [if_pos rfl, Nat.testBit_two_pow]
      by_cases e : n = k
      · subst e; simp [h]
      · have : (k < n + 1) ↔ (k < n) := by omega
        simp [e, this]
    | false =>
      simp only [Bool.false_eq_true, if_false, Nat.zero_testBit, Bool.or_false]
      by_cases e : n = k
      · subst e; simp [h]
      · have : (k < n + 1) ↔ (k < n) := by omega
        simp [this]
theorem mk_lt (p : Nat → Bool) (n : Nat) : mk p n < 2 ^ n := by
  apply Nat.lt_pow_two_of_testBit
  intro i hi
  rw [mk_bit]
  simp; omega
theorem mk_cong {p q : Nat → Bool} {n : Nat} (h : ∀ k, k < n → p k = q k) : mk p n = mk q n := by
  apply Nat.eq_of_testBit_eq
  intro i
  rw [mk_bit, mk_bit]
  by_cases hi : i < n
  · rw [h i hi]
  · simp [hi]
/-- values in the machine -/
theorem lh_not {a : Nat} (b : Nat) (ha : a < 2147483648) : nI a &&& (nI b ^^^ -1) = nI (dif a b) := by
  rw [show (-1 : Int32) = nI (2 ^ 32 - 1) from by decide, fb_xorI, fa_and]
  congr 1
  apply Nat.eq_of_testBit_eq
  intro i
  rw [dif_bit, Nat.testBit_and, Nat.testBit_xor, Nat.testBit_two_pow_sub_one]
  by_cases hi : i < 32
  · simp [hi]
  · have h : a.testBit i = false := Nat.testBit_lt_two_pow (Nat.lt_of_lt_of_le (show a < 2 ^ 32 by omega) (Nat.pow_le_pow_right (by decide) (by omega)))
    simp [h]
theorem lh_bit0 : ∀ k, k < 31 → nI 1 <<< (nI k &&& 31) = nI (2 ^ k) := by decide +kernel
theorem lh_bit {k : Nat} (hk : k < 31) : nI 1 <<< (nI k &&& 31) = nI (2 ^ k) := lh_bit0 k hk
theorem lh_sh0 : ∀ k, k < 31 → ((nI k &&& 31).toBitVec.smod 32).toNat = k := by decide +kernel
theorem lh_has {s k : Nat} (hs : s < 2147483648) (hk : k < 31) : (nI s >>> (nI k &&& 31)) &&& nI 1 = b2i (s.testBit k) := by
  rw [pk_shrN (by omega) _ k (lh_sh0 k hk), fa_and]
  rw [Nat.testBit_eq_decide_div_mod_eq, show (s / 2 ^ k) &&& 1 = s / 2 ^ k % 2 from Nat.and_one_is_mod _]
  rcases Nat.mod_two_eq_zero_or_one (s / 2 ^ k) with h | h <;> rw [h] <;> rfl
theorem lh_tst0 {s k : Nat} (hk : k < 31) : nI (s &&& 2 ^ k) = 0 ↔ s.testBit k = false := by
  rw [← fa_and]; exact fa_bit hk
theorem nI_o : nI 1 = 1 := rfl
theorem lh_inc (k : Nat) : nI k + Int32.ofInt 1 = nI (k + 1) := nI_1 k
theorem lh_z {k : Nat} (hk : k < 2147483648) (h : nI k = 0) : k = 0 := (nI_eq (by omega) (by omega)).mp (h.trans nI_0.symm)
theorem lh_nz {k : Nat} (h : ¬ nI k = 0) : ¬ k = 0 := fun e => h (by rw [e]; rfl)
theorem lh_le0 {k : Nat} (hk : k < 2147483648) (h : nI k ≤ 0) : k = 0 := by
  rcases Nat.eq_zero_or_pos k with e | e
  · exact e
  · exact absurd h (nI_nle e (by omega))
theorem lh_gt0 {k : Nat} (hk : k < 2147483648) (h : ¬ nI k ≤ 0) : 0 < k := by
  rcases Nat.eq_zero_or_pos k with e | e
  · subst e; exact absurd (by decide) h
  · exact e
theorem b2i_inj {a b : Bool} (h : b2i a = b2i b) : a = b := by cases a <;> cases b <;> first | rfl | (exact absurd h (by decide))
theorem b2i_e1 {a : Bool} (h : b2i a = nI 1) : a = true := by cases a <;> first | rfl | (exact absurd h (by decide))
theorem b2i_n1 {a : Bool} (h : ¬ b2i a = nI 1) : a = false := by cases a <;> first | rfl | (exact absurd rfl h)
theorem lh_sw {n : Nat} {hi : Int} {x : Int32} (hn : n < 2147483648) (hh : hi + 1 = (n : Int)) : (x.toInt < 0 ∨ hi < x.toInt) ∨ ∃ k, k < n ∧ x = nI k := by
  by_cases h1 : x.toInt < 0
  · exact Or.inl (Or.inl h1)
  · by_cases h2 : hi < x.toInt
    · exact Or.inl (Or.inr h2)
    · obtain ⟨j, hj, e⟩ := vp_in_of (x := x) (n := n) (vp_in_iff.mpr ⟨by omega, by omega⟩) (by omega)
      exact Or.inr ⟨j, hj, e⟩
theorem lh_updN (f : Nat → Nat) (i x : Nat) : upd (fun k => nI (f k)) i (nI x) = fun k => nI ((va_up f i x) k) := by
  funext k; unfold upd va_up; by_cases h : k = i <;> simp [h]
theorem lh_updR (f : Nat → Nat) (i x : Nat) : upd (fun k => rv (f k)) i (rv x) = fun k => rv ((va_up f i x) k) := by
  funext k; unfold upd va_up; by_cases h : k = i <;> simp [h]
theorem lh_updB (f : Nat → Bool) (i : Nat) (x : Bool) : upd (fun k => b2i (f k)) i (b2i x) = fun k => b2i ((va_up f i x) k) := by
  funext k; unfold upd va_up; by_cases h : k = i <;> simp [h]
theorem lh_cpyN (f : Nat → Nat) (a b n : Nat) : va_cpy (fun k => nI (f k)) (fun k => nI (f k)) a b n = fun k => nI ((va_cpy f f a b n) k) := by
  funext k; unfold va_cpy; by_cases h : b ≤ k ∧ k < b + n <;> simp [h]
theorem lh_cpyR (f : Nat → Nat) (a b n : Nat) : va_cpy (fun k => rv (f k)) (fun k => rv (f k)) a b n = fun k => rv ((va_cpy f f a b n) k) := by
  funext k; unfold va_cpy; by_cases h : b ≤ k ∧ k < b + n <;> simp [h]
theorem lh_narB (b : Bool) : vp_nar .boolean (b2i b) = b2i b := by cases b <;> rfl
section LHA
variable {p : Program} {l : Launch} {e : Env} {R : Room} {s : State} {m : MethodId} {args : Array Value} {below : List Frame} {meth : Method} {c : Code} {H : Heap} {locs : List Loc} {cells slots : Nat} {Q : State → Prop}
variable {cc : ByteArray} {pc : Nat} {ls : Array Slot} {rest : List Value} {D : va_G} {cl : List vw_C} {A : Nat → Prop} {a : Nat} {tys : List (ClassId × FieldType)} {ws : va_W} {H0 : Heap}
theorem lh_ild (hexec : p.tables.exec = Jvm.exec) (hb : c.code = cc) (hK : va_K D cl tys s) (hP : va_P D cl ws H) (q0 t0 : Nat) {cA : ClassId} {N k : Nat} {f : Nat → Int32} (ha : ws[q0]? = some (a, .inl (cA, N, .inl f))) (ht : tys[t0]? = some (cA, .int)) (hin : k < N) (hN : N < 2147483648) (hdg : decode cc pc = .ok (.iaload, 1))
    (kk : W p l e R s m args below meth c H locs cells slots Q (F0 m (pc + 1) ls (.int (f k) :: rest))) : W p l e R s m args below meth c H locs cells slots Q (F0 m pc ls (.int (nI k) :: .ref a :: rest)) :=
  va_iald hexec hb hK hP q0 t0 ha ht (vp_in_nI hin (by omega)) hdg (by rw [nI_clamp (by omega)]; exact kk)
theorem lh_zld (hexec : p.tables.exec = Jvm.exec) (hb : c.code = cc) (hK : va_K D cl tys s) (hP : va_P D cl ws H) (q0 t0 : Nat) {cA : ClassId} {N k : Nat} {f : Nat → Int32} (ha : ws[q0]? = some (a, .inl (cA, N, .inl f))) (ht : tys[t0]? = some (cA, .boolean)) (hin : k < N) (hN : N < 2147483648) (hdg : decode cc pc = .ok (.baload, 1))
    (kk : W p l e R s m args below meth c H locs cells slots Q (F0 m (pc + 1) ls (.int (f k) :: rest))) : W p l e R s m args below meth c H locs cells slots Q (F0 m pc ls (.int (nI k) :: .ref a :: rest)) :=
  va_zald hexec hb hK hP q0 t0 ha ht (vp_in_nI hin (by omega)) hdg (by rw [nI_clamp (by omega)]; exact kk)
theorem lh_ist (hexec : p.tables.exec = Jvm.exec) (hb : c.code = cc) (hK : va_K D cl tys s) (hP : va_P D cl ws H) (hD : va_D A ws) (hS : va_S A H0 H locs) (q0 t0 : Nat) {cA : ClassId} {N k : Nat} {f f2 : Nat → Int32} (ha : ws[q0]? = some (a, .inl (cA, N, .inl f))) (ht : tys[t0]? = some (cA, .int)) {x : Int32} (hin : k < N) (hN : N < 2147483648) (hf : upd f k x = f2) (hdg : decode cc pc = .ok (.iastore, 1))
    (kk : ∀ (H1 : Heap) (locs1 : List Loc), va_P D cl (ws.set q0 (a, .inl (cA, N, .inl f2))) H1 → va_D A (ws.set q0 (a, .inl (cA, N, .inl f2))) → va_S A H0 H1 locs1 → W p l e R s m args below meth c H1 locs1 cells slots Q (F0 m (pc + 1) ls rest)) : W p l e R s m args below meth c H locs cells slots Q (F0 m pc ls (.int x :: .int (nI k) :: .ref a :: rest)) :=
  va_iast hexec hb hK hP hD hS q0 t0 ha ht (vp_in_nI hin (by omega)) hdg (fun H1 locs1 h1 h2 h3 => by
    rw [nI_clamp (by omega), hf] at h1 h2
    exact kk H1 locs1 h1 h2 h3)
theorem lh_zst (hexec : p.tables.exec = Jvm.exec) (hb : c.code = cc) (hK : va_K D cl tys s) (hP : va_P D cl ws H) (hD : va_D A ws) (hS : va_S A H0 H locs) (q0 t0 : Nat) {cA : ClassId} {N k : Nat} {f f2 : Nat → Int32} (ha : ws[q0]? = some (a, .inl (cA, N, .inl f))) (ht : tys[t0]? = some (cA, .boolean)) {x : Bool} (hin : k < N) (hN : N < 2147483648) (hf : upd f k (b2i x) = f2) (hdg : decode cc pc = .ok (.bastore, 1))
    (kk : ∀ (H1 : Heap) (locs1 : List Loc), va_P D cl (ws.set q0 (a, .inl (cA, N, .inl f2))) H1 → va_D A (ws.set q0 (a, .inl (cA, N, .inl f2))) → va_S A H0 H1 locs1 → W p l e R s m args below meth c H1 locs1 cells slots Q (F0 m (pc + 1) ls rest)) : W p l e R s m args below meth c H locs cells slots Q (F0 m pc ls (.int (b2i x) :: .int (nI k) :: .ref a :: rest)) :=
  va_zast hexec hb hK hP hD hS q0 t0 ha ht (vp_in_nI hin (by omega)) hdg (fun H1 locs1 h1 h2 h3 => by
    rw [nI_clamp (by omega), lh_narB, hf] at h1 h2
    exact kk H1 locs1 h1 h2 h3)
theorem lh_cpy (hexec : p.tables.exec = Jvm.exec) (hb : c.code = cc) (hml : c.maxLocals = ls.size) {own : String} {index : Nat} (hown : s.vm.findClass own = some m.cls) (hlink : (Cond.methodLink own index arraycopyName).before args s = true) (hnat : (Cond.native arraycopyName).before args s = true) (hstat : (Cond.static arraycopyName).before args s = true) (hini : (Cond.initialized "java/lang/System").before args s = true)
    (hK : va_K D cl tys s) (hP : va_P D cl ws H) (hD : va_D A ws) (hS : va_S A H0 H locs) (q0 t0 : Nat) {cA : ClassId} {N a1 b1 n1 : Nat} {f f2 : Nat → Int32} (ha : ws[q0]? = some (a, .inl (cA, N, .inl f))) (ht : tys[t0]? = some (cA, .int)) (h4 : a1 + n1 ≤ N) (h5 : b1 + n1 ≤ N) (hN : N < 2147483648) (hf : va_cpy f f a1 b1 n1 = f2)
    (hframes : 1 ≤ R.frames) (hlocals : (rest.map fun v => v.category).sum + (nativeFrameWords "java/lang/System" "arraycopy" 5 + 11) ≤ R.locals) (hdg : decode cc pc = .ok (.invokestatic index, 3))
    (kk : ∀ (H1 : Heap) (locs1 : List Loc), va_P D cl (ws.set q0 (a, .inl (cA, N, .inl f2))) H1 → va_D A (ws.set q0 (a, .inl (cA, N, .inl f2))) → va_S A H0 H1 locs1 → W p l e R s m args below meth c H1 locs1 cells slots Q (F0 m (pc + 3) ls rest)) : W p l e R s m args below meth c H locs cells slots Q (F0 m pc ls (.int (nI n1) :: .int (nI b1) :: .ref a :: .int (nI a1) :: .ref a :: rest)) := by
  have e1 : (nI a1).toNatClampNeg = a1 := nI_clamp (by omega)
  have e2 : (nI b1).toNatClampNeg = b1 := nI_clamp (by omega)
  have e3 : (nI n1).toNatClampNeg = n1 := nI_clamp (by omega)
  refine va_copyi hexec hb hml hown hlink hnat hstat hini hK hP hD hS q0 q0 t0 t0 ha ha ht ht rfl (nI_pos (by omega)) (nI_pos (by omega)) (nI_pos (by omega)) (by rw [e1, e3]; exact h4) (by rw [e2, e3]; exact h5) (fun i _ => rfl) hframes hlocals hdg (fun H1 locs1 h1 h2 h3 => ?_)
  rw [e1, e2, e3, hf] at h1 h2
  exact kk H1 locs1 h1 h2 h3
end LHA
def QI (below : List Frame) (D : va_G) (tys : List (ClassId × FieldType)) (A : Nat → Prop) (ws' : va_W) (r : Int32) (args : Array Value) (s : State) : State → Prop := MQ below (va_Qi (fun (x : Int32) (_ : Unit) => x = r) (fun _ => lhAt D tys A ws') A) args s 0 0 A
def QV (below : List Frame) (D : va_G) (tys : List (ClassId × FieldType)) (A : Nat → Prop) (ws' : va_W) (args : Array Value) (s : State) : State → Prop := MQ below (va_Qv (fun (_ : Unit) => True) (fun _ => lhAt D tys A ws') A) args s 0 0 A


/-! rows of the logic: the JDK's own methods, statics, copies of rows -/
def jabs (x : Int) : Int := if 0 ≤ x then x else jw (0 - x)
def jMl (own : String) (idx : Nat) (nm : MethodName) (cd : ByteArray) (n : Nat) : Prop := Cond.methodLink own idx nm ∈ jTbl ∧ Cond.static nm ∈ jTbl ∧ Cond.initialized "java/lang/Math" ∈ jTbl ∧ Cond.code nm cd n (some .int) ∈ jTbl
section
variable {y : jY} {sh : jS} {m : jM} {pc : Nat} {ls st : List jV} {Q : Int → jM → Prop}
theorem G_mmin {idx : Nat} {a b : Int} (hd : decode (jyc y) pc = .ok (.invokestatic idx, 3)) (hl : jMl (jyn y).cls idx Lib.Math.min.name Lib.Math.min.code 2) (hcat : jcats st ≤ 8) (k : G y sh sh m (pc + 3) ls ((0, min a b) :: st) Q) : G y sh sh m pc ls ((0, b) :: (0, a) :: st) Q := by
  intro w p l e R s mm args below meth c H locs cells slots c0 s0 Z la C hH hS hL h1 h2 hc hs hfc hfs hret
  have r1 : jyh y + 1 ≤ R.frames := C.2.2.2.2.2.2.2.1
  have r2 : 45 * jyh y + 40 ≤ R.locals := C.2.2.2.2.2.2.2.2.1
  have hts := C.2.2.2.2.1
  have hcc := jcats_ok (w := w) st
  refine va_mmin C.1 C.2.1 (C.2.2.1.trans hL.2.1.symm) C.2.2.2.1 (hts _ hl.1) (hts _ hl.2.1) (hts _ hl.2.2.1) (hts _ hl.2.2.2) (by omega) (by omega) (by omega) (by omega) hd ?_
  have ha := jok_h (jok_t h2)
  have hb := jok_h h2
  have he : (if Int32.ofInt b < Int32.ofInt a then Int32.ofInt b else Int32.ofInt a) = Int32.ofInt (min a b) := by
    by_cases h : b < a
    · rw [if_pos ((j_lt hb ha).mpr h), Int.min_eq_right (by omega)]
    · rw [if_neg (fun q => h ((j_lt hb ha).mp q)), Int.min_eq_left (by omega)]
  show W p l e R s mm args below meth c H locs cells slots Z (F0 mm (pc + 3) la (.int (if Int32.ofInt b < Int32.ofInt a then Int32.ofInt b else Int32.ofInt a) :: st.map (jcv w)))
  rw [he]
  exact k w p l e R s mm args below meth c H locs cells slots c0 s0 Z la C hH hS hL h1 (jok_c (j_ok0 (by have := ha.1 rfl; have := hb.1 rfl; simp only at *; omega) (by have := ha.1 rfl; have := hb.1 rfl; simp only at *; omega)) (jok_t (jok_t h2))) hc hs hfc hfs hret
theorem G_mmax {idx : Nat} {a b : Int} (hd : decode (jyc y) pc = .ok (.invokestatic idx, 3)) (hl : jMl (jyn y).cls idx Lib.Math.max.name Lib.Math.max.code 2) (hcat : jcats st ≤ 8) (k : G y sh sh m (pc + 3) ls ((0, max a b) :: st) Q) : G y sh sh m pc ls ((0, b) :: (0, a) :: st) Q := by
  intro w p l e R s mm args below meth c H locs cells slots c0 s0 Z la C hH hS hL h1 h2 hc hs hfc hfs hret
  have r1 : jyh y + 1 ≤ R.frames := C.2.2.2.2.2.2.2.1
  have r2 : 45 * jyh y + 40 ≤ R.locals := C.2.2.2.2.2.2.2.2.1
  have hts := C.2.2.2.2.1
  have hcc := jcats_ok (w := w) st
  refine va_mmax C.1 C.2.1 (C.2.2.1.trans hL.2.1.symm) C.2.2.2.1 (hts _ hl.1) (hts _ hl.2.1) (hts _ hl.2.2.1) (hts _ hl.2.2.2) (by omega) (by omega) (by omega) (by omega) hd ?_
  have ha := jok_h (jok_t h2)
  have hb := jok_h h2
  have he : ∀ (P Q : Prop) [Decidable P] [Decidable Q], True := fun _ _ _ _ => trivial
  have hk : W p l e R s mm args below meth c H locs cells slots Z (F0 mm (pc + 3) la (.int (Int32.ofInt (max a b)) :: st.map (jcv w))) := k w p l e R s mm args below meth c H locs cells slots c0 s0 Z la C hH hS hL h1 (jok_c (j_ok0 (by have := ha.1 rfl; have := hb.1 rfl; simp only at *; omega) (by have := ha.1 rfl; have := hb.1 rfl; simp only at *; omega)) (jok_t (jok_t h2))) hc hs hfc hfs hret
  by_cases h : a < b
  · rw [Int.max_eq_right (by omega)] at hk
    have q1 : Int32.ofInt a < Int32.ofInt b := (j_lt ha hb).mpr h
    have q2 : ¬ Int32.ofInt b ≤ Int32.ofInt a := fun q => by have := (j_le hb ha).mp q; omega
    first
    | (rw [if_pos q1]; exact hk)
    | (rw [if_neg q2]; exact hk)
    | (simp only [q1, q2, if_true, if_false]; exact hk)
  · rw [Int.max_eq_left (by omega)] at hk
    have q1 : ¬ Int32.ofInt a < Int32.ofInt b := fun q => h ((j_lt ha hb).mp q)
    have q2 : Int32.ofInt b ≤ Int32.ofInt a := (j_le hb ha).mpr (by omega)
    first
    | (rw [if_neg q1]; exact hk)
    | (rw [if_pos q2]; exact hk)
    | (simp only [q1, q2, if_true, if_false]; exact hk)
theorem G_mabs {idx : Nat} {a : Int} (hd : decode (jyc y) pc = .ok (.invokestatic idx, 3)) (hl : jMl (jyn y).cls idx Lib.Math.abs.name Lib.Math.abs.code 1) (hcat : jcats st ≤ 8) (k : G y sh sh m (pc + 3) ls ((0, jabs a) :: st) Q) : G y sh sh m pc ls ((0, a) :: st) Q := by
  intro w p l e R s mm args below meth c H locs cells slots c0 s0 Z la C hH hS hL h1 h2 hc hs hfc hfs hret
  have r1 : jyh y + 1 ≤ R.frames := C.2.2.2.2.2.2.2.1
  have r2 : 45 * jyh y + 40 ≤ R.locals := C.2.2.2.2.2.2.2.2.1
  have hts := C.2.2.2.2.1
  have hcc := jcats_ok (w := w) st
  refine va_mabs C.1 C.2.1 (C.2.2.1.trans hL.2.1.symm) C.2.2.2.1 (hts _ hl.1) (hts _ hl.2.1) (hts _ hl.2.2.1) (hts _ hl.2.2.2) (by omega) (by omega) (by omega) (by omega) hd ?_
  have ha := jok_h h2
  have he : (if 0 ≤ Int32.ofInt a then Int32.ofInt a else 0 - Int32.ofInt a) = Int32.ofInt (jabs a) := by
    unfold jabs
    by_cases h : 0 ≤ a
    · have g : (0 : Int32) ≤ Int32.ofInt a := (j_le (a := 0) (j_ok0 (by omega) (by omega)) ha).mpr h
      rw [if_pos h, if_pos g]
    · have g : ¬ (0 : Int32) ≤ Int32.ofInt a := fun q => h ((j_le (a := 0) (j_ok0 (by omega) (by omega)) ha).mp q)
      rw [if_neg h, if_neg g]
      exact j_sub 0 a
  show W p l e R s mm args below meth c H locs cells slots Z (F0 mm (pc + 3) la (.int (if 0 ≤ Int32.ofInt a then Int32.ofInt a else 0 - Int32.ofInt a) :: st.map (jcv w)))
  rw [he]
  refine k w p l e R s mm args below meth c H locs cells slots c0 s0 Z la C hH hS hL h1 (jok_c ?_ (jok_t h2)) hc hs hfc hfs hret
  unfold jabs
  split
  · exact ha
  · exact j_okw _
end
theorem G_xlene {y : jY} {fs sh : jS} {m : jM} {pc : Nat} {ls st : List jV} {Q : Int → jM → Prop} {p x : Int} (hp : p = -2 ∨ p = -3) (hd : decode (jyc y) pc = .ok (.arraylength, 1)) (hv : m p (-1) = x) (k : G y fs sh m (pc + 1) ls ((0, x) :: st) Q) : G y fs sh m pc ls ((2, p) :: st) Q := by
  subst hv
  exact G_xlen (n := 0) (i := 0) hp hd k
theorem G_gets {y : jY} {fs sh : jS} {m : jM} {pc : Nat} {ls st : List jV} {Q : Int → jM → Prop} {idx : Nat} (hd : decode (jyc y) pc = .ok (.getstatic idx, 3)) (hl : Cond.fieldLink (jyn y).cls idx "SchoolRides$Text" "UNTOLD" "[I" ∈ jTbl) (k : G y fs sh m (pc + 3) ls ((2, -3) :: st) Q) : G y fs sh m pc ls st Q := by
  intro w p l e R s mm args below meth c H locs cells slots c0 s0 Z la C hH hS hL h1 h2 hc hs hfc hfs hret
  have hX : jX w s := C.2.2.2.2.2.2.1
  refine va_gets C.1 C.2.1 hX.2.2.2.1.1 hS C.2.2.2.1 (C.2.2.2.2.1 _ hl) (fun _ h => h) hd ?_
  have K := k w p l e R s mm args below meth c H locs cells slots c0 s0 Z la C hH hS hL h1 (jok_c (j_ok2 _) h2) hc hs hfc hfs hret
  rw [List.map_cons, jcv_x (by omega)] at K
  exact K
/-- the first n of a row into another -/
def jcopy (m : jM) (p q : Int) (n : Int) : jM := fun a i => if a = q ∧ 0 ≤ i ∧ i < n then m p i else m a i
theorem jcopy_lay {m : jM} {p q n : Int} (hq : ∀ (m : jM) (i x : Int), Lay m → Lay (jup m q i x)) (h : Lay m) : Lay (jcopy m p q n) := by
  have key : ∀ a i, a ≠ q → jcopy m p q n a i = m a i := fun a i ha => by simp [jcopy, ha]
  have hne : ∀ z ∈ layL, z.1 ≠ q := by
    intro z hz e
    have := (hq m z.2.1 (z.2.2 + 1) h).1 z hz
    rw [e, jup_s] at this
    omega
  have h11 : (11 : Int) ≠ q := by
    intro e
    have := (hq m 2 0 h).2
    rw [← e, jup_s] at this
    unfold jTx at this
    omega
  exact ⟨fun z hz => by rw [key _ _ (hne z hz)]; exact h.1 z hz, by rw [key _ _ h11]; exact h.2⟩

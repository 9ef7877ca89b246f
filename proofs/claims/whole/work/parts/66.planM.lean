/-! the plan as mathematics -/
theorem sb64 : ∀ x : Fin 64, ∀ y : Fin 64, jand ((y : Nat) : Int) (jxor ((x : Nat) : Int) (-1)) = 0 → jxor ((x : Nat) : Int) ((y : Nat) : Int) = ((x : Nat) : Int) - ((y : Nat) : Int) ∧ jand ((x : Nat) : Int) (jxor ((y : Nat) : Int) (-1)) = ((x : Nat) : Int) - ((y : Nat) : Int) ∧ 0 ≤ ((x : Nat) : Int) - ((y : Nat) : Int) ∧ jand (((x : Nat) : Int) - ((y : Nat) : Int)) (jxor ((x : Nat) : Int) (-1)) = 0 ∧ (((y : Nat) : Int) ≠ 0 → cnt (((x : Nat) : Int) - ((y : Nat) : Int)) 6 + 1 ≤ cnt ((x : Nat) : Int) 6) := by decide +kernel
theorem sb_in {x y : Int} (x0 : 0 ≤ x) (x1 : x < 64) (y0 : 0 ≤ y) (y1 : y < 64) (h : sub6 y x) : jxor x y = x - y ∧ jand x (jxor y (-1)) = x - y ∧ 0 ≤ x - y ∧ sub6 (x - y) x ∧ (y ≠ 0 → cnt (x - y) 6 + 1 ≤ cnt x 6) := by
  have := sb64 ⟨x.toNat, by omega⟩ ⟨y.toNat, by omega⟩
  simp only [Int.toNat_of_nonneg x0, Int.toNat_of_nonneg y0] at this
  obtain ⟨a, b, c, d, e⟩ := this ((sub_iff y0 y1 x0 x1).mpr h)
  exact ⟨a, b, c, (sub_iff c (by omega) x0 x1).mp d, e⟩
theorem lw64 : ∀ x : Fin 64, ((x : Nat) : Int) ≠ 0 → 0 ≤ jbc (jw (jand ((x : Nat) : Int) (jw (-((x : Nat) : Int))) - 1)) ∧ jbc (jw (jand ((x : Nat) : Int) (jw (-((x : Nat) : Int))) - 1)) < 6 ∧ tb ((x : Nat) : Int) (jbc (jw (jand ((x : Nat) : Int) (jw (-((x : Nat) : Int))) - 1))) = true ∧ (∀ i : Fin 6, ((i : Nat) : Int) < jbc (jw (jand ((x : Nat) : Int) (jw (-((x : Nat) : Int))) - 1)) → tb ((x : Nat) : Int) ((i : Nat) : Int) = false) ∧ jand ((x : Nat) : Int) (jw (-((x : Nat) : Int))) = 2 ^ (jbc (jw (jand ((x : Nat) : Int) (jw (-((x : Nat) : Int))) - 1))).toNat ∧ jand ((x : Nat) : Int) (jw (((x : Nat) : Int) - 1)) = ((x : Nat) : Int) - 2 ^ (jbc (jw (jand ((x : Nat) : Int) (jw (-((x : Nat) : Int))) - 1))).toNat := by decide +kernel
theorem lw_in {x : Int} (x0 : 0 < x) (x1 : x < 64) : (0 ≤ low x ∧ low x < 6 ∧ tb x (low x) = true) ∧ jbc (jw (jand x (jw (-x)) - 1)) = low x ∧ jand x (jw (-x)) = 2 ^ (low x).toNat ∧ jand x (jw (x - 1)) = x - 2 ^ (low x).toNat := by
  have := lw64 ⟨x.toNat, by omega⟩
  simp only [Int.toNat_of_nonneg (show 0 ≤ x by omega)] at this
  obtain ⟨a, b, c, d, e, f⟩ := this (by omega)
  generalize jbc (jw (jand x (jw (-x)) - 1)) = r at *
  have hr : low x = r := low_eq x0 (by omega) ⟨a, c, fun i i0 i1 => by
    have := d ⟨i.toNat, by omega⟩
    simp only [Int.toNat_of_nonneg i0] at this
    exact this i1⟩
  rw [hr]
  exact ⟨⟨a, b, c⟩, rfl, e, f⟩
abbrev pT : Type := (Int × Int × Int) × Int
/-- one way more for a set: the rest's plan, its cost, routes more, what it is -/
def pOp (T : Int → pT) (rest cost dr code : Int) (a : Int × Int × Int) : Int × Int × Int := if (T rest).1.1 < 0 then a else if 0 ≤ a.1 ∧ (a.1 < (T rest).1.1 + cost ∨ ((T rest).1.1 + cost = a.1 ∧ a.2.1 ≤ (T rest).1.2.1 + dr)) then a else ((T rest).1.1 + cost, (T rest).1.2.1 + dr, code)
/-- a set is a route for x with its least stop -/
def rtK (V : jM) (s x y : Int) : Prop := sub6 y x ∧ tb y (low x) = true ∧ gd V s y
noncomputable def wsN (V : jM) (s : Int) (T : Int → pT) (x : Int) (a : Int × Int × Int) : Nat → pT
  | 0 => (a, 99)
  | y + 1 => @ite _ (rtK V s x y) (Classical.propDecidable _) (pOp T (x - y) (py V s y) 1 y (wsN V s T x a y).1, min (wsN V s T x a y).2 (1 + (T (x - y)).2)) (wsN V s T x a y)
noncomputable def txC (V : jM) (s l : Int) : Int := V 9 3 * rdN V s l * vD V 2 (V 8 l) (V 6 s)
noncomputable def txA (V : jM) (s : Int) (T : Int → pT) (x : Int) : Int × Int × Int := if vD V 2 (V 8 (low x)) (V 6 s) = -1 then (-1, 0, 0) else pOp T (x - 2 ^ (low x).toNat) (txC V s (low x)) 0 0 (-1, 0, 0)
noncomputable def tSt (V : jM) (s : Int) (T : Int → pT) (x : Int) : pT := wsN V s T x (txA V s T x) (x.toNat + 1)
noncomputable def tA (V : jM) (s : Int) (x : Int) : pT := wfA ((0, 0, 0), 0) (tSt V s) x
theorem rtK_in {V : jM} {s x y : Int} (x0 : 0 < x) (x1 : x < 64) (y0 : 0 ≤ y) (y1 : y < 64) (h : rtK V s x y) : 0 < y ∧ 0 ≤ x - y ∧ x - y < x ∧ sub6 (x - y) x ∧ cnt (x - y) 6 + 1 ≤ cnt x 6 := by
  have q := sb_in (by omega) x1 y0 y1 h.1
  have : y ≠ 0 := by
    intro z
    have := h.2.1
    rw [z, tb_zero] at this
    exact absurd this (by decide)
  exact ⟨by omega, q.2.2.1, by omega, q.2.2.2.1, q.2.2.2.2 this⟩
theorem pOp_cg {T T' : Int → pT} {rest cost dr code : Int} {a : Int × Int × Int} (h : T rest = T' rest) : pOp T rest cost dr code a = pOp T' rest cost dr code a := by
  unfold pOp
  rw [h]
theorem tSt_cg {V : jM} {s x : Int} (x0 : 0 < x) (x1 : x < 64) (T T' : Int → pT) (h : ∀ y, 0 ≤ y → y < x → T y = T' y) : tSt V s T x = tSt V s T' x := by
  have l := lw_in x0 x1
  have d := dl_in (by omega) x1 l.1.1 l.1.2.1 l.1.2.2
  have ha : txA V s T x = txA V s T' x := by
    unfold txA
    split
    · rfl
    · exact pOp_cg (h _ d.2.1 d.2.2.1)
  unfold tSt
  rw [ha]
  have key : ∀ n : Nat, (n : Int) ≤ x + 1 → wsN V s T x (txA V s T' x) n = wsN V s T' x (txA V s T' x) n := by
    intro n
    induction n with
    | zero => intro _; rfl
    | succ n ih =>
      intro hn
      simp only [wsN]
      rw [ih (by omega)]
      split
      · rename_i q
        have r := rtK_in x0 x1 (by omega) (by omega) q
        rw [pOp_cg (h _ r.2.1 r.2.2.1), h _ r.2.1 r.2.2.1]
      · rfl
  exact key _ (by omega)
theorem tA_eq {V : jM} {s x : Int} (x0 : 0 < x) (x1 : x < 64) : tA V s x = tSt V s (tA V s) x := wfA_eq x0 (tSt_cg x0 x1)
theorem tA_0 {V : jM} {s : Int} : tA V s 0 = ((0, 0, 0), 0) := rfl
/-- bounds of a table's entry with c stops -/
def pIn (a : Int × Int × Int) (c : Int) : Prop := -1 ≤ a.1 ∧ (a.1 < 0 → a.1 = -1) ∧ a.1 ≤ 217778220 * c ∧ (0 ≤ a.1 → 0 ≤ a.2.1 ∧ a.2.1 ≤ c)
theorem pOp_in {T : Int → pT} {rest cost dr code c cr : Int} {a : Int × Int × Int} (ha : pIn a c) (ht : pIn (T rest).1 cr) (h1 : cr + 1 ≤ c) (hc : 0 ≤ cost ∧ cost ≤ 217778220) (hd : 0 ≤ dr ∧ dr ≤ 1) : pIn (pOp T rest cost dr code a) c := by
  unfold pOp
  split
  · exact ha
  · split
    · exact ha
    · obtain ⟨t1, t2, t3, t4⟩ := ht
      have := t4 (by omega)
      exact ⟨by simp only; omega, fun _ => by simp only at *; omega, by simp only; omega, fun _ => by simp only; omega⟩
theorem txC_in {V : jM} (hf : vKf V) (ht : vKt V) (s l : Int) (h : vD V 2 (V 8 l) (V 6 s) ≠ -1) : 0 ≤ txC V s l ∧ txC V s l ≤ 217778220 ∧ 0 ≤ V 9 3 * rdN V s l ∧ V 9 3 * rdN V s l ≤ 199980 := by
  have a := ht.2.2.2.2 3 (by decide) (by decide)
  have b := rdN_in hf.1.2.2.2.2.1 hf.1.2.2.2.2.2 s l
  have d1 := vD_ge ht 2 (V 8 l) (V 6 s)
  have d2 := (vD_le ht 2 (V 8 l) (V 6 s)).2 rfl
  have e1 : 0 ≤ V 9 3 * rdN V s l := Int.mul_nonneg a.1 b.1
  have e2 : V 9 3 * rdN V s l ≤ 9999 * 20 := Int.le_trans (Int.mul_le_mul_of_nonneg_right a.2 b.1) (Int.mul_le_mul_of_nonneg_left b.2.1 (by decide))
  have e3 : 0 ≤ txC V s l := Int.mul_nonneg e1 (by omega)
  have e4 : txC V s l ≤ (9999 * 20) * 1089 := Int.le_trans (Int.mul_le_mul_of_nonneg_right e2 (by omega)) (Int.mul_le_mul_of_nonneg_left d2 (by decide))
  omega
theorem wsN_in {V : jM} (hk : vKt V) {s x : Int} (x0 : 0 < x) (x1 : x < 64) {T : Int → pT} {a : Int × Int × Int} (hT : ∀ y, 0 ≤ y → y < x → pIn (T y).1 (cnt y 6) ∧ 0 ≤ (T y).2 ∧ (T y).2 ≤ 99) (ha : pIn a (cnt x 6)) : ∀ n : Nat, n ≤ 64 → pIn (wsN V s T x a n).1 (cnt x 6) ∧ 0 ≤ (wsN V s T x a n).2 ∧ (wsN V s T x a n).2 ≤ 99 := by
  intro n
  induction n with
  | zero => intro _; exact ⟨ha, by simp only [wsN]; omega, by simp only [wsN]; omega⟩
  | succ n ih =>
    intro hn
    have ih := ih (by omega)
    simp only [wsN]
    split
    · rename_i q
      have r := rtK_in x0 x1 (by omega) (by omega) q
      have t := hT _ r.2.1 r.2.2.1
      have pb := py_in hk (by omega) (by omega) q.2.2
      exact ⟨pOp_in ih.1 t.1 r.2.2.2.2 (by omega) (by decide), by simp only; omega, by simp only; omega⟩
    · exact ih
theorem txA_in {V : jM} (hf : vKf V) (hk : vKt V) {s x : Int} (x0 : 0 < x) (x1 : x < 64) {T : Int → pT} (hT : ∀ y, 0 ≤ y → y < x → pIn (T y).1 (cnt y 6) ∧ 0 ≤ (T y).2 ∧ (T y).2 ≤ 99) : pIn (txA V s T x) (cnt x 6) := by
  have l := lw_in x0 x1
  have d := dl_in (by omega) x1 l.1.1 l.1.2.1 l.1.2.2
  have c0 := (cnt_nn x 6).1
  have z : pIn (-1, 0, 0) (cnt x 6) := ⟨by simp only; omega, fun _ => rfl, by simp only; omega, fun y => absurd y (by simp)⟩
  unfold txA
  split
  · exact z
  · exact pOp_in z (hT _ d.2.1 d.2.2.1).1 (by omega) ⟨(txC_in hf hk s _ (by assumption)).1, (txC_in hf hk s _ (by assumption)).2.1⟩ (by decide)
theorem tA_in {V : jM} (hf : vKf V) (hk : vKt V) (s : Int) : ∀ (n : Nat) (x : Int), x < n → 0 ≤ x → x < 64 → pIn (tA V s x).1 (cnt x 6) ∧ 0 ≤ (tA V s x).2 ∧ (tA V s x).2 ≤ 99 := by
  intro n
  induction n with
  | zero => intro x h1 h2; omega
  | succ n ih =>
    intro x h1 h2 h3
    by_cases e : x = 0
    · subst e
      rw [tA_0]
      exact ⟨⟨by decide, fun h => absurd h (by decide), by decide, fun _ => by decide⟩, by decide, by decide⟩
    · rw [tA_eq (by omega) h3]
      have hT : ∀ y, 0 ≤ y → y < x → pIn (tA V s y).1 (cnt y 6) ∧ 0 ≤ (tA V s y).2 ∧ (tA V s y).2 ≤ 99 := fun y y0 y1 => ih y (by omega) y0 (by omega)
      exact wsN_in hk (by omega) h3 hT (txA_in hf hk (by omega) h3 hT) _ (by omega)
theorem tA_bd {V : jM} (hf : vKf V) (hk : vKt V) (s : Int) {x : Int} (x0 : 0 ≤ x) (x1 : x < 64) : -1 ≤ (tA V s x).1.1 ∧ (tA V s x).1.1 ≤ 1306669320 ∧ (0 ≤ (tA V s x).1.1 → 0 ≤ (tA V s x).1.2.1 ∧ (tA V s x).1.2.1 ≤ 6) ∧ 0 ≤ (tA V s x).2 ∧ (tA V s x).2 ≤ 99 := by
  have h := tA_in hf hk s 64 x (by omega) x0 x1
  have c := cnt_nn x 6
  obtain ⟨⟨a, b, c', d⟩, e, f⟩ := h
  exact ⟨a, by omega, fun z => by have := d z; omega, e, f⟩
/-- what the least stop does comes first among the best ways -/
theorem pOp_b {T : Int → pT} {rest cost dr code : Int} {a : Int × Int × Int} : pOp T rest cost dr code a = a ∨ (0 ≤ (T rest).1.1 ∧ pOp T rest cost dr code a = ((T rest).1.1 + cost, (T rest).1.2.1 + dr, code)) := by
  unfold pOp
  split
  · exact Or.inl rfl
  · split
    · exact Or.inl rfl
    · exact Or.inr ⟨by omega, rfl⟩
def sxOk (x mo : Int) : Bool :=
  let b := jand x (jw (-x))
  let o := jxor x b
  let nx := jand (jw (mo - o)) o
  if jand mo (jxor o (-1)) = 0 then (jor b mo == b + mo) && decide (b + mo < 64) && (jand (b + mo) (jxor x (-1)) == 0) && (if mo = o then (b + mo == x) else (decide (mo < nx) && (jand nx (jxor o (-1)) == 0) && (List.range 64).all (fun z => !(decide (b + mo < (z : Int)) && decide ((z : Int) < b + nx) && (jand (z : Int) (jxor x (-1)) == 0) && (jand (z : Int) b != 0))))) else true
theorem sx64 : ∀ x : Fin 64, ∀ mo : Fin 64, ((x : Nat) : Int) ≠ 0 → sxOk ((x : Nat) : Int) ((mo : Nat) : Int) = true := by decide +kernel

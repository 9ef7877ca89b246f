/-! the least bit; parts of sets -/
def lsb (x s : Int) : Prop := 0 ≤ s ∧ tb x s = true ∧ ∀ i, 0 ≤ i → i < s → tb x i = false
theorem lsb_un {x s t : Int} (h : lsb x s) (h2 : lsb x t) : s = t := by
  rcases Int.lt_trichotomy s t with q | q | q
  · have := h2.2.2 s h.1 q
    rw [h.2.1] at this
    cases this
  · exact q
  · have := h.2.2 t h2.1 q
    rw [h2.2.1] at this
    cases this
theorem lsb_lt {x s : Int} (h0 : 0 ≤ x) (h1 : x ≤ 2147483647) (h : lsb x s) : s < 31 := by
  apply Classical.byContradiction
  intro q
  have := tb_hi h0 (Int.not_lt.mp q) h1
  rw [h.2.1] at this
  cases this
theorem tb_some {x : Int} (h0 : 0 ≤ x) (h1 : x ≤ 2147483647) (hx : x ≠ 0) : ∃ i, 0 ≤ i ∧ i < 31 ∧ tb x i = true := by
  apply Classical.byContradiction
  intro hn
  apply hx
  refine tb_ext2 (k := 31) (by decide) ⟨h0, by show x < 2147483648; omega⟩ ⟨by decide, by decide⟩ (fun i i0 i1 => ?_)
  rw [tb_zero]
  cases h : tb x i with
  | false => rfl
  | true => exact absurd ⟨i, i0, i1, h⟩ hn
theorem lsb_ex {x : Int} (h0 : 0 < x) (h1 : x ≤ 2147483647) : ∃ s, lsb x s := by
  obtain ⟨i, i0, i1, h⟩ := tb_some (by omega) h1 (by omega)
  obtain ⟨s, h2, h3⟩ := least_nat (P := fun n => tb x (n : Int) = true) i.toNat (by rwa [Int.toNat_of_nonneg i0])
  refine ⟨s, by omega, h2, fun j j0 j1 => ?_⟩
  cases hj : tb x j with
  | false => rfl
  | true =>
    have := h3 j.toNat (by rwa [Int.toNat_of_nonneg j0])
    omega
theorem lsb_fac : ∀ (s : Nat) (x : Int), lsb x s → ∃ q, x = 2 ^ s * (2 * q + 1) := by
  intro s
  induction s with
  | zero =>
    rintro x ⟨-, h, -⟩
    unfold tb at h
    refine ⟨x / 2, ?_⟩
    have := of_decide_eq_true h
    simp at this ⊢
    omega
  | succ s ih =>
    rintro x ⟨-, h, h2⟩
    have h0 := h2 0 (by decide) (by omega)
    unfold tb at h0
    have h0 := of_decide_eq_false h0
    simp at h0
    have e : ∀ i : Int, 0 ≤ i → tb (x / 2) i = tb x (1 + i) := fun i hi => by
      have := tb_shr (a := x) (k := 1) (by decide) hi
      simpa using this
    obtain ⟨q, hq⟩ := ih (x / 2) ⟨by omega, by rw [e _ (by omega)]; rw [show 1 + (s : Int) = ((s + 1 : Nat) : Int) by omega]; exact h, fun i i0 i1 => by rw [e _ i0]; exact h2 _ (by omega) (by omega)⟩
    refine ⟨q, ?_⟩
    rw [show (2 : Int) ^ (s + 1) = 2 ^ s * 2 from Int.pow_succ .., Int.mul_right_comm, ← hq]
    omega
theorem tb_mulp {s : Nat} {y i : Int} (h0 : 0 ≤ i) : tb (2 ^ s * y) i = if i < s then false else tb y (i - s) := by
  have hp : (2 : Int) ^ s ≠ 0 := Int.ne_of_gt (Int.pow_pos (by decide))
  by_cases h : i < s
  · rw [if_pos h]
    unfold tb
    have e : (2 : Int) ^ s * y = (2 ^ (s - i.toNat - 1) * 2 * y) * 2 ^ i.toNat := by
      rw [show (2 : Int) ^ (s - i.toNat - 1) * 2 = 2 ^ (s - i.toNat - 1 + 1) from (Int.pow_succ ..).symm, Int.mul_right_comm, ← Int.pow_add]
      congr 2
      omega
    rw [e, Int.mul_ediv_cancel _ (Int.ne_of_gt (Int.pow_pos (by decide))), Int.mul_right_comm]
    generalize (2 : Int) ^ (s - i.toNat - 1) * y = z
    simp
  · rw [if_neg h]
    have := tb_shr (a := 2 ^ s * y) (k := (s : Int)) (i := i - s) (by omega) (by omega)
    rw [Int.toNat_natCast, Int.mul_ediv_cancel_left _ hp] at this
    rw [this]
    congr 1
    omega
theorem tb_odd {q i : Int} (h0 : 0 ≤ i) : tb (2 * q + 1) i = if i = 0 then true else tb q (i - 1) := by
  by_cases h : i = 0
  · subst h
    rw [if_pos rfl]
    unfold tb
    simp
  · rw [if_neg h]
    have := tb_shr (a := 2 * q + 1) (k := 1) (i := i - 1) (by decide) (by omega)
    rw [show (2 * q + 1) / 2 ^ (Int.toNat 1) = q by simp; omega] at this
    rw [this]
    congr 1
    omega
theorem jw_neg {x : Int} (h0 : 0 ≤ x) (h1 : x ≤ 2147483647) : jw (-x) = -x := jw_id (by omega) (by omega)
theorem tb_low {x s i : Int} (hs : lsb x s) (h0 : 0 ≤ i) : (tb x i && tb (-x) i) = decide (i = s) := by
  have s0 := hs.1
  obtain ⟨q, hq⟩ := lsb_fac s.toNat x (by rwa [Int.toNat_of_nonneg s0])
  have e1 := tb_mulp (s := s.toNat) (y := 2 * q + 1) h0
  have e2 := tb_mulp (s := s.toNat) (y := 2 * (-q - 1) + 1) h0
  rw [← hq] at e1
  rw [show (2 : Int) ^ s.toNat * (2 * (-q - 1) + 1) = -x by rw [hq, ← Int.mul_neg]; congr 1; omega] at e2
  rw [Int.toNat_of_nonneg s0] at e1 e2
  rw [e1, e2]
  by_cases h : i < s
  · rw [if_pos h, if_pos h, decide_eq_false (by omega)]
    rfl
  · rw [if_neg h, if_neg h, tb_odd (by omega), tb_odd (by omega)]
    by_cases h2 : i - s = 0
    · rw [if_pos h2, if_pos h2, decide_eq_true (by omega)]
      rfl
    · rw [if_neg h2, if_neg h2, tb_neg, decide_eq_false (by omega)]
      cases tb q (i - s - 1) <;> rfl
theorem jand_low {x s : Int} (h0 : 0 ≤ x) (h1 : x ≤ 2147483647) (hs : lsb x s) : jand x (-x) = 2 ^ s.toNat := by
  have hl := lsb_lt h0 h1 hs
  have hp := p2_31 hs.1 hl
  refine tb_ext (jand_in _ _) (by omega) (fun i i0 i1 => ?_)
  rw [tb_and (by omega) (by omega) i0 i1, tb_low hs i0, tb_pow hs.1 i0]
theorem jand_fit {S x s : Int} (h0 : 0 ≤ x) (h1 : x ≤ 2147483647) (hS : -2147483648 ≤ S ∧ S ≤ 2147483647) (hs : lsb x s) : jand (jand S x) (-x) = 0 ↔ tb S s = false := by
  have hl := lsb_lt h0 h1 hs
  have key : ∀ i, 0 ≤ i → i < 32 → tb (jand (jand S x) (-x)) i = (tb S i && decide (i = s)) := by
    intro i i0 i1
    rw [tb_and (jand_in _ _) (by omega) i0 i1, tb_and hS (by omega) i0 i1, Bool.and_assoc, tb_low hs i0]
  constructor
  · intro e
    have := key s hs.1 (by omega)
    rw [e, tb_zero] at this
    simpa using this.symm
  · intro e
    refine tb_ext (jand_in _ _) (by decide) (fun i i0 i1 => ?_)
    rw [key i i0 i1, tb_zero]
    by_cases h : i = s
    · rw [h, e]; rfl
    · rw [decide_eq_false h]; simp
theorem jand_le {a b : Int} (ha : 0 ≤ a) (h2 : a ≤ 2147483647) : jand a b ≤ a := by
  unfold jand
  have e : (Int32.ofInt a).toBitVec.toNat = a.toNat := by
    show (BitVec.ofInt 32 a).toNat = a.toNat
    rw [BitVec.toNat_ofInt]
    congr 1
    omega
  have h1 : (Int32.ofInt a &&& Int32.ofInt b).toBitVec.toNat ≤ a.toNat := by
    rw [Int32.toBitVec_and, BitVec.toNat_and, e]
    exact Nat.and_le_left
  have h2 : (Int32.ofInt a &&& Int32.ofInt b).toInt ≤ (Int32.ofInt a &&& Int32.ofInt b).toBitVec.toNat := by
    show (Int32.ofInt a &&& Int32.ofInt b).toBitVec.toInt ≤ _
    rw [BitVec.toInt_eq_toNat_cond]
    split <;> omega
  omega
theorem jsub_iff {a b : Int} (ha : -2147483648 ≤ a ∧ a ≤ 2147483647) (hb : -2147483648 ≤ b ∧ b ≤ 2147483647) : jand a (jxor b (-1)) = 0 ↔ ∀ i, 0 ≤ i → i < 32 → tb a i = true → tb b i = true := by
  constructor
  · intro e i i0 i1 h
    have : tb (jand a (jxor b (-1))) i = (tb a i && !tb b i) := by rw [tb_and ha (jxor_in _ _) i0 i1, tb_not hb]
    rw [e, tb_zero, h] at this
    simpa using this
  · intro h
    refine tb_ext (jand_in _ _) (by decide) (fun i i0 i1 => ?_)
    rw [tb_and ha (jxor_in _ _) i0 i1, tb_not hb, tb_zero]
    cases hi : tb a i with
    | false => rfl
    | true => rw [h i i0 i1 hi]; rfl
theorem jxor_sub {a b : Int} (ha : -2147483648 ≤ a ∧ a ≤ 2147483647) (hb : -2147483648 ≤ b ∧ b ≤ 2147483647) (h : jand b (jxor a (-1)) = 0) : jxor a b = jand a (jxor b (-1)) := by
  have h2 := (jsub_iff hb ha).mp h
  refine tb_ext (jxor_in _ _) (jand_in _ _) (fun i i0 i1 => ?_)
  rw [tb_xor ha hb i0 i1, tb_and ha (jxor_in _ _) i0 i1, tb_not hb]
  cases hi : tb b i with
  | false => simp
  | true => rw [h2 i i0 i1 hi]; rfl
/-- what is left when a set with the least bit goes -/
theorem jrest {x S s : Int} (h0 : 0 ≤ x) (h1 : x ≤ 2147483647) (hS : -2147483648 ≤ S ∧ S ≤ 2147483647) (hs : lsb x s) (ht : tb S s = true) : 0 ≤ jand x (jxor S (-1)) ∧ jand x (jxor S (-1)) < x := by
  have hl := lsb_lt h0 h1 hs
  have q := jand_le (b := jxor S (-1)) h0 h1
  have n := jand_nn (b := jxor S (-1)) ⟨h0, h1⟩ (jxor_in _ _)
  have : jand x (jxor S (-1)) ≠ x := by
    intro e
    have h := tb_and (a := x) (b := jxor S (-1)) (i := s) (by omega) (jxor_in _ _) hs.1 (by omega)
    rw [e, tb_not hS, ht, hs.2.1] at h
    cases h
  omega
noncomputable def low (x : Int) : Int := @dite _ (∃ s, lsb x s) (Classical.propDecidable _) (fun h => Classical.choose h) (fun _ => 0)
theorem low_lsb {x : Int} (h0 : 0 < x) (h1 : x ≤ 2147483647) : lsb x (low x) := by
  have h := lsb_ex h0 h1
  unfold low
  rw [dif_pos h]
  exact Classical.choose_spec h
theorem low_eq {x s : Int} (h0 : 0 < x) (h1 : x ≤ 2147483647) (h : lsb x s) : low x = s := lsb_un (low_lsb h0 h1) h
theorem c_firstOf {m : jM} {Q : Int → jM → Prop} {x : Int} (h0 : 0 < x) (h1 : x ≤ 2147483647) (hQ : Q (low x) m) : ML iX11_firstOf [(0, x)] m Q := by
  have hs := low_lsb h0 h1
  generalize low x = s at hs hQ
  have hl := lsb_lt (by omega) h1 hs
  refine sX11_firstOf ?_
  refine lup (σ := jM) (n := s) (I := fun i m' => 0 ≤ i ∧ i ≤ s ∧ m' = m) (G := fun i m' => GL iX11_firstOf m' 2 [(0, x), (0, i)] [] Q) ?_ ?_ 0 m ⟨by decide, hs.1, rfl⟩
  · rintro i m' hi ⟨i0, i1, rfl⟩ K
    refine sX11_firstOf_2 ?_
    rw [jshr_bit (by omega) i0 (by omega), hs.2.2 i i0 hi, jw_id (by omega) (by omega)]
    exact ⟨fun c => absurd rfl c, fun _ => K m' ⟨by omega, by omega, rfl⟩⟩
  · rintro i m' hi ⟨i0, i1, rfl⟩
    obtain rfl : i = s := by omega
    refine sX11_firstOf_2 ?_
    rw [jshr_bit (by omega) i0 (by omega), hs.2.1]
    exact ⟨fun _ => hQ, fun c => absurd (by decide) c⟩
def cnt (x : Int) (n : Nat) : Int := sumN (fun i => if tb x i = true then 1 else 0) n
theorem cnt_sub {x y s : Int} {n : Nat} (hs : 0 ≤ s ∧ s < n) (hx : tb x s = true) (hy : tb y s = false) (h : ∀ i, 0 ≤ i → i < n → tb y i = true → tb x i = true) : cnt y n < cnt x n := by
  have h1 : cnt y n ≤ sumN (fun i => if i = s then 0 else if tb x i = true then 1 else 0) n := by
    unfold cnt
    have : ∀ k : Nat, k ≤ n → sumN (fun i => if tb y i = true then 1 else 0) k ≤ sumN (fun i => if i = s then 0 else if tb x i = true then 1 else 0) k := by
      intro k
      induction k with
      | zero => intro _; exact Int.le_refl _
      | succ k ih =>
        intro hk
        have := ih (by omega)
        have q : (if tb y (k : Int) = true then (1 : Int) else 0) ≤ (if (k : Int) = s then 0 else if tb x (k : Int) = true then 1 else 0) := by
          by_cases e : (k : Int) = s
          · rw [if_pos e, e, hy]; decide
          · rw [if_neg e]
            cases hk2 : tb y (k : Int) with
            | false => simp; split <;> omega
            | true => rw [h k (by omega) (by omega) hk2]; simp
        simp only [sumN]
        omega
    exact this n (Nat.le_refl _)
  have h2 : cnt x n = sumN (fun i => if i = s then 0 else if tb x i = true then 1 else 0) n + 1 := by
    unfold cnt
    rw [sumN_up (f := fun i => if i = s then 0 else if tb x i = true then 1 else 0) (g := fun i => if tb x i = true then 1 else 0) (j := s) n hs.1 hs.2 (fun i i0 i1 hi => by rw [if_neg hi])]
    simp [hx]
  omega
theorem cnt_nn (x : Int) (n : Nat) : 0 ≤ cnt x n ∧ cnt x n ≤ n := by
  have h1 := sumN_ge (f := fun i => if tb x i = true then 1 else 0) (L := 0) n (fun i _ _ => by split <;> omega)
  have h2 := sumN_le (f := fun i => if tb x i = true then 1 else 0) (L := 1) n (fun i _ _ => by split <;> omega)
  unfold cnt
  omega
theorem p2m1 {k : Int} (h0 : 0 ≤ k) (h : k < 31) : jw (jshl 1 k - 1) = 2 ^ k.toNat - 1 := by
  have := p2_31 h0 h
  rw [jshl1 k h0 h, jw_id (by omega) (by omega)]

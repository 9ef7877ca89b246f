/-! Integer.bitCount of twenty bits -/
theorem tb_nat (n : Nat) {i : Int} (h0 : 0 ≤ i) : tb (n : Int) i = n.testBit i.toNat := by
  unfold tb
  rw [Nat.testBit_eq_decide_div_mod_eq]
  have : ((n : Int) / 2 ^ i.toNat % 2 = 1) ↔ (n / 2 ^ i.toNat % 2 = 1) := by
    have e : (n : Int) / 2 ^ i.toNat % 2 = ((n / 2 ^ i.toNat % 2 : Nat) : Int) := by
      rw [Int.natCast_emod, Int.natCast_ediv, Int.natCast_pow]
      rfl
    rw [e]
    omega
  exact decide_eq_decide.mpr this
theorem jand_nat {a b : Nat} (ha : a ≤ 2147483647) (hb : b ≤ 2147483647) : jand (a : Int) (b : Int) = ((a &&& b : Nat) : Int) := by
  have : (a &&& b) ≤ a := Nat.and_le_left
  refine tb_ext (jand_in _ _) (by omega) (fun i h0 hi => ?_)
  rw [tb_and (by omega) (by omega) h0 hi, tb_nat a h0, tb_nat b h0, tb_nat _ h0, Nat.testBit_and]
theorem jushr_lem : ∀ k : Nat, k < 32 → (((Int32.ofInt (k : Int)).toUInt32 &&& Int32.toUInt32 31).toNat % 32) = k := by decide +kernel
theorem jushr_nat {a : Nat} {k : Nat} (ha : a ≤ 2147483647) (hk : k < 32) : jushr (a : Int) (k : Int) = ((a / 2 ^ k : Nat) : Int) := by
  unfold jushr
  have e1 : ((Int32.ofInt (a : Int)).toUInt32).toNat = a := by
    show (BitVec.ofInt 32 (a : Int)).toNat = a
    rw [BitVec.toNat_ofInt]
    omega
  have e2 : ((Int32.ofInt (a : Int)).toUInt32 >>> ((Int32.ofInt (k : Int)).toUInt32 &&& Int32.toUInt32 31)).toNat = a / 2 ^ k := by
    rw [UInt32.toNat_shiftRight, e1, jushr_lem k hk, Nat.shiftRight_eq_div_pow]
  generalize ((Int32.ofInt (a : Int)).toUInt32 >>> ((Int32.ofInt (k : Int)).toUInt32 &&& Int32.toUInt32 31)) = u at *
  have le : a / 2 ^ k ≤ a := Nat.div_le_self _ _
  show u.toBitVec.toInt = _
  have e3 : u.toBitVec.toNat = a / 2 ^ k := e2
  rw [BitVec.toInt_eq_toNat_cond, e3, if_pos (by omega)]
theorem fld {a y c C s : Nat} (ha : a < 256) (hs : s ≤ 8) (hc : c < 2 ^ (8 - s)) : (a + 256 * y) / 2 ^ s &&& (c + 256 * C) = (a / 2 ^ s &&& c) + 256 * (y / 2 ^ s &&& C) := by
  have h8 : ∀ p q : Nat, p < 256 → ∀ j, (p + 256 * q).testBit j = if j < 8 then p.testBit j else q.testBit (j - 8) := by
    intro p q hp j
    rw [Nat.add_comm]
    exact Nat.testBit_two_pow_mul_add (i := 8) q hp j
  have c8 : c < 256 := Nat.lt_of_lt_of_le hc (by calc 2 ^ (8 - s) ≤ 2 ^ 8 := Nat.pow_le_pow_right (by decide) (by omega)
                                                    _ = 256 := rfl)
  have l8 : (a / 2 ^ s &&& c) < 256 := Nat.lt_of_le_of_lt Nat.and_le_right c8
  apply Nat.eq_of_testBit_eq
  intro j
  rw [Nat.testBit_and, h8 _ _ c8, h8 _ _ l8, Nat.testBit_div_two_pow, h8 _ _ ha, Nat.testBit_and, Nat.testBit_and, Nat.testBit_div_two_pow, Nat.testBit_div_two_pow]
  by_cases hj : j < 8
  · rw [if_pos hj, if_pos hj]
    by_cases h2 : j + s < 8
    · rw [if_pos h2]
    · have : c.testBit j = false := Nat.testBit_lt_two_pow (Nat.lt_of_lt_of_le hc (Nat.pow_le_pow_right (by decide) (by omega)))
      rw [this, Bool.and_false, Bool.and_false]
  · rw [if_neg hj, if_neg hj, if_neg (by omega)]
    rw [show j + s - 8 = j - 8 + s by omega]
def T1 (M x : Nat) : Nat := x - (x / 2 &&& M)
def T2 (M x : Nat) : Nat := (x &&& M) + (x / 4 &&& M)
theorem T1_f {a y M : Nat} (ha : a < 256) : T1 (85 + 256 * M) (a + 256 * y) = T1 85 a + 256 * T1 M y := by
  unfold T1
  have e := fld (s := 1) (y := y) (C := M) ha (by decide) (show 85 < 2 ^ (8 - 1) by decide)
  have h1 : a / 2 &&& 85 ≤ a := Nat.le_trans Nat.and_le_left (Nat.div_le_self _ _)
  have h2 : y / 2 &&& M ≤ y := Nat.le_trans Nat.and_le_left (Nat.div_le_self _ _)
  rw [Nat.pow_one] at e
  rw [e]
  omega
theorem T2_f {a y M : Nat} (ha : a < 256) : T2 (51 + 256 * M) (a + 256 * y) = T2 51 a + 256 * T2 M y := by
  unfold T2
  have e0 := fld (s := 0) (y := y) (C := M) ha (by decide) (show 51 < 2 ^ (8 - 0) by decide)
  have e2 := fld (s := 2) (y := y) (C := M) ha (by decide) (show 51 < 2 ^ (8 - 2) by decide)
  rw [show 2 ^ 2 = 4 by rfl] at e2
  rw [Nat.pow_zero, Nat.div_one, Nat.div_one, Nat.div_one] at e0
  rw [e0, e2]
  omega
theorem pb8 : ∀ a : Fin 256, T1 85 (a : Nat) < 256 ∧ T2 51 (T1 85 (a : Nat)) % 16 ≤ 4 ∧ T2 51 (T1 85 (a : Nat)) / 16 ≤ 4 ∧ (((T2 51 (T1 85 (a : Nat)) + T2 51 (T1 85 (a : Nat)) / 16) % 16 : Nat) : Int) = cnt ((a : Nat) : Int) 8 := by decide +kernel
theorem pb16 : ∀ a : Fin 16, T1 0x5555 (a : Nat) < 256 ∧ T1 85 (a : Nat) = T1 0x5555 (a : Nat) ∧ T2 51 (T1 85 (a : Nat)) = T2 0x3333 (T1 0x5555 (a : Nat)) ∧ cnt ((a : Nat) : Int) 8 = cnt ((a : Nat) : Int) 4 ∧ T2 51 (T1 85 (a : Nat)) ≤ 4 ∧ (a : Nat) &&& 0x0f0f = (a : Nat) := by decide +kernel
theorem cnt_app {a y : Nat} (ha : a < 256) : ∀ n : Nat, cnt ((a + 256 * y : Nat) : Int) (8 + n) = cnt (a : Int) 8 + cnt (y : Int) n := by
  have h8 : ∀ j, (a + 256 * y).testBit j = if j < 8 then a.testBit j else y.testBit (j - 8) := by
    intro j
    rw [Nat.add_comm]
    exact Nat.testBit_two_pow_mul_add (i := 8) y ha j
  have lo : ∀ n : Nat, n ≤ 8 → cnt ((a + 256 * y : Nat) : Int) n = cnt (a : Int) n := by
    intro n
    induction n with
    | zero => intro _; rfl
    | succ n ih =>
      intro hn
      have e : tb ((a + 256 * y : Nat) : Int) (n : Int) = tb (a : Int) (n : Int) := by
        rw [tb_nat _ (by omega), tb_nat _ (by omega), h8, Int.toNat_natCast, if_pos (by omega)]
      show cnt _ n + (if tb ((a + 256 * y : Nat) : Int) (n : Int) = true then 1 else 0) = cnt _ n + (if tb (a : Int) (n : Int) = true then 1 else 0)
      rw [e, ih (by omega)]
  intro n
  induction n with
  | zero => rw [lo 8 (by decide)]; show _ = _ + 0; omega
  | succ n ih =>
    have e : tb ((a + 256 * y : Nat) : Int) ((8 + n : Nat) : Int) = tb (y : Int) (n : Int) := by
      rw [tb_nat _ (by omega), tb_nat _ (by omega), h8, Int.toNat_natCast, Int.toNat_natCast, if_neg (by omega)]
      rw [show 8 + n - 8 = n by omega]
    show cnt _ (8 + n) + (if tb ((a + 256 * y : Nat) : Int) ((8 + n : Nat) : Int) = true then 1 else 0) = cnt _ 8 + (cnt _ n + (if tb (y : Int) (n : Int) = true then 1 else 0))
    rw [e, ih]
    omega
theorem nib {p : Nat} (h1 : p % 16 ≤ 4) (h2 : p / 16 ≤ 4) : (p + p / 16) % 16 ≤ 8 := by
  have e : p = 16 * (p / 16) + p % 16 := (Nat.div_add_mod p 16).symm
  generalize p / 16 = h at *
  generalize p % 16 = l at *
  subst e
  rw [Nat.add_assoc, Nat.mul_add_mod, Nat.mod_eq_of_lt (by omega)]
  omega
theorem nib4 {r : Nat} (h : r ≤ 4) : (r + r / 16) % 16 = r := by
  have e : r / 16 = 0 := by omega
  rw [e]
  omega
theorem jbc_20 {x : Int} (x0 : 0 ≤ x) (x1 : x < 1048576) : jbc x = cnt x 20 := by
  obtain ⟨n, rfl⟩ : ∃ n : Nat, x = (n : Int) := ⟨x.toNat, by omega⟩
  obtain ⟨a, y, ha, hy, rfl⟩ : ∃ a y : Nat, a < 256 ∧ y < 4096 ∧ n = a + 256 * y := ⟨n % 256, n / 256, by omega, by omega, by omega⟩
  obtain ⟨b, c, hb, hc, rfl⟩ : ∃ b c : Nat, b < 256 ∧ c < 16 ∧ y = b + 256 * c := ⟨y % 256, y / 256, by omega, by omega, by omega⟩
  have pa := pb8 ⟨a, ha⟩
  have pb := pb8 ⟨b, hb⟩
  have pc := pb8 ⟨c, by omega⟩
  have pc2 := pb16 ⟨c, hc⟩
  simp only at pa pb pc pc2
  have e1 : jb1 ((a + 256 * (b + 256 * c) : Nat) : Int) = ((T1 85 a + 256 * (T1 85 b + 256 * T1 85 c) : Nat) : Int) := by
    unfold jb1
    have q : jushr ((a + 256 * (b + 256 * c) : Nat) : Int) ((1 : Nat) : Int) = _ := jushr_nat (by omega) (by decide)
    have q : jushr ((a + 256 * (b + 256 * c) : Nat) : Int) 1 = (((a + 256 * (b + 256 * c)) / 2 ^ 1 : Nat) : Int) := q
    have q2 : jand (((a + 256 * (b + 256 * c)) / 2 ^ 1 : Nat) : Int) ((1431655765 : Nat) : Int) = _ := jand_nat (by omega) (by decide)
    have q2 : jand (((a + 256 * (b + 256 * c)) / 2 ^ 1 : Nat) : Int) 1431655765 = (((a + 256 * (b + 256 * c)) / 2 ^ 1 &&& 1431655765 : Nat) : Int) := q2
    have t := T1_f (a := a) (y := b + 256 * c) (M := 85 + 256 * 0x5555) ha
    rw [T1_f (a := b) (y := c) (M := 0x5555) hb, ← pc2.2.1] at t
    have le : (a + 256 * (b + 256 * c)) / 2 &&& 1431655765 ≤ a + 256 * (b + 256 * c) := Nat.le_trans Nat.and_le_left (Nat.div_le_self _ _)
    have t' : a + 256 * (b + 256 * c) - ((a + 256 * (b + 256 * c)) / 2 &&& 1431655765) = T1 85 a + 256 * (T1 85 b + 256 * T1 85 c) := t
    rw [q, q2, Nat.pow_one, jw_id (by omega) (by omega), ← t']
    omega
  have z : T1 85 c < 16 := by have : T1 85 c ≤ c := Nat.sub_le _ _; omega
  have r4 := pc2.2.2.2.2.1
  have e2 : jb2 ((T1 85 a + 256 * (T1 85 b + 256 * T1 85 c) : Nat) : Int) = ((T2 51 (T1 85 a) + 256 * (T2 51 (T1 85 b) + 256 * T2 51 (T1 85 c)) : Nat) : Int) := by
    have t := T2_f (a := T1 85 a) (y := T1 85 b + 256 * T1 85 c) (M := 51 + 256 * 0x3333) pa.1
    have pc3 : T2 51 (T1 85 c) = T2 0x3333 (T1 85 c) := pc2.2.2.1.trans (by rw [pc2.2.1])
    rw [T2_f (a := T1 85 b) (y := T1 85 c) (M := 0x3333) pb.1, ← pc3] at t
    rw [← t]
    have wb : T1 85 a + 256 * (T1 85 b + 256 * T1 85 c) < 1048576 := by have := pa.1; have := pb.1; omega
    generalize T1 85 a + 256 * (T1 85 b + 256 * T1 85 c) = w at *
    unfold jb2
    have q1 : jand (w : Int) ((858993459 : Nat) : Int) = _ := jand_nat (by omega) (by decide)
    have q1 : jand (w : Int) 858993459 = ((w &&& 858993459 : Nat) : Int) := q1
    have q2 : jushr (w : Int) ((2 : Nat) : Int) = _ := jushr_nat (by omega) (by decide)
    have q2 : jushr (w : Int) 2 = ((w / 4 : Nat) : Int) := q2
    have q3 : jand ((w / 4 : Nat) : Int) ((858993459 : Nat) : Int) = _ := jand_nat (by omega) (by decide)
    have q3 : jand ((w / 4 : Nat) : Int) 858993459 = ((w / 4 &&& 858993459 : Nat) : Int) := q3
    have l1 : w &&& 858993459 ≤ w := Nat.and_le_left
    have l2 : w / 4 &&& 858993459 ≤ w / 4 := Nat.and_le_left
    rw [q1, q2, q3, jw_id (by omega) (by omega)]
    show _ = (((w &&& 858993459) + (w / 4 &&& 858993459) : Nat) : Int)
    omega
  have ca := pa.2
  have cb := pb.2
  have cc := pc.2.2.2
  generalize T2 51 (T1 85 a) = p at *
  generalize T2 51 (T1 85 b) = q at *
  generalize T2 51 (T1 85 c) = r at *
  have e3 : jb3 ((p + 256 * (q + 256 * r) : Nat) : Int) = (((p + p / 16) % 16 + 256 * ((q + q / 16) % 16 + 256 * r) : Nat) : Int) := by
    unfold jb3
    have q2 : jushr ((p + 256 * (q + 256 * r) : Nat) : Int) ((4 : Nat) : Int) = _ := jushr_nat (by omega) (by decide)
    have q2 : jushr ((p + 256 * (q + 256 * r) : Nat) : Int) 4 = (((p + 256 * (q + 256 * r)) / 16 : Nat) : Int) := q2
    rw [q2, jw_id (by omega) (by omega)]
    have ex : ((p + 256 * (q + 256 * r) : Nat) : Int) + (((p + 256 * (q + 256 * r)) / 16 : Nat) : Int) = (((p + p / 16 + 16 * (q % 16)) + 256 * ((q + q / 16 + 16 * (r % 16)) + 256 * r) : Nat) : Int) := by omega
    rw [ex]
    have f1 := fld (a := p + p / 16 + 16 * (q % 16)) (s := 0) (c := 15) (y := (q + q / 16 + 16 * (r % 16)) + 256 * r) (C := 15 + 256 * 0x0f0f) (by omega) (by decide) (by decide)
    have f2 := fld (a := q + q / 16 + 16 * (r % 16)) (s := 0) (c := 15) (y := r) (C := 0x0f0f) (by omega) (by decide) (by decide)
    rw [Nat.pow_zero, Nat.div_one, Nat.div_one, Nat.div_one] at f1 f2
    have m1 : (p + p / 16 + 16 * (q % 16)) &&& 15 = (p + p / 16 + 16 * (q % 16)) % 16 := Nat.and_two_pow_sub_one_eq_mod _ 4
    have m2 : (q + q / 16 + 16 * (r % 16)) &&& 15 = (q + q / 16 + 16 * (r % 16)) % 16 := Nat.and_two_pow_sub_one_eq_mod _ 4
    have m3 : r &&& 0x0f0f = r := (pb16 ⟨r, by omega⟩).2.2.2.2.2
    rw [m2, m3] at f2
    rw [f2, m1] at f1
    have q4 : jand (((p + p / 16 + 16 * (q % 16)) + 256 * ((q + q / 16 + 16 * (r % 16)) + 256 * r) : Nat) : Int) ((252645135 : Nat) : Int) = _ := jand_nat (by omega) (by decide)
    have q4 : jand (((p + p / 16 + 16 * (q % 16)) + 256 * ((q + q / 16 + 16 * (r % 16)) + 256 * r) : Nat) : Int) 252645135 = (((p + p / 16 + 16 * (q % 16)) + 256 * ((q + q / 16 + 16 * (r % 16)) + 256 * r) &&& 252645135 : Nat) : Int) := q4
    rw [q4]
    have f1 : (p + p / 16 + 16 * (q % 16)) + 256 * ((q + q / 16 + 16 * (r % 16)) + 256 * r) &&& 252645135 = (p + p / 16 + 16 * (q % 16)) % 16 + 256 * ((q + q / 16 + 16 * (r % 16)) % 16 + 256 * r) := f1
    rw [f1]
    omega
  have P8 : (p + p / 16) % 16 ≤ 8 ∧ (q + q / 16) % 16 ≤ 8 := ⟨nib ca.1 ca.2.1, nib cb.1 cb.2.1⟩
  have er : (r + r / 16) % 16 = r := nib4 r4
  rw [er] at cc
  have ca := ca.2.2
  have cb := cb.2.2
  generalize (p + p / 16) % 16 = P at *
  generalize (q + q / 16) % 16 = Q at *
  have e4 : jb4 ((P + 256 * (Q + 256 * r) : Nat) : Int) = ((P + Q + 256 * (Q + r) + 65536 * r : Nat) : Int) := by
    unfold jb4
    have q2 : jushr ((P + 256 * (Q + 256 * r) : Nat) : Int) ((8 : Nat) : Int) = _ := jushr_nat (by omega) (by decide)
    have q2 : jushr ((P + 256 * (Q + 256 * r) : Nat) : Int) 8 = (((P + 256 * (Q + 256 * r)) / 256 : Nat) : Int) := q2
    rw [q2, jw_id (by omega) (by omega)]
    omega
  have e5 : jb5 ((P + Q + 256 * (Q + r) + 65536 * r : Nat) : Int) = ((P + Q + r + 256 * (Q + r) + 65536 * r : Nat) : Int) := by
    unfold jb5
    have q2 : jushr ((P + Q + 256 * (Q + r) + 65536 * r : Nat) : Int) ((16 : Nat) : Int) = _ := jushr_nat (by omega) (by decide)
    have q2 : jushr ((P + Q + 256 * (Q + r) + 65536 * r : Nat) : Int) 16 = (((P + Q + 256 * (Q + r) + 65536 * r) / 65536 : Nat) : Int) := q2
    rw [q2, jw_id (by omega) (by omega)]
    omega
  unfold jbc
  rw [e1, e2, e3, e4, e5]
  have q6 : jand ((P + Q + r + 256 * (Q + r) + 65536 * r : Nat) : Int) ((63 : Nat) : Int) = _ := jand_nat (by omega) (by decide)
  have q6 : jand ((P + Q + r + 256 * (Q + r) + 65536 * r : Nat) : Int) 63 = ((P + Q + r + 256 * (Q + r) + 65536 * r &&& 63 : Nat) : Int) := q6
  have m6 : (P + Q + r + 256 * (Q + r) + 65536 * r) &&& 63 = (P + Q + r + 256 * (Q + r) + 65536 * r) % 64 := Nat.and_two_pow_sub_one_eq_mod _ 6
  have c1 := cnt_app (a := a) (y := b + 256 * c) ha 12
  have c2 := cnt_app (a := b) (y := c) hb 4
  have c1 : cnt ((a + 256 * (b + 256 * c) : Nat) : Int) 20 = cnt (a : Int) 8 + cnt ((b + 256 * c : Nat) : Int) 12 := c1
  have c2 : cnt ((b + 256 * c : Nat) : Int) 12 = cnt (b : Int) 8 + cnt (c : Int) 4 := c2
  have c3 := pc2.2.2.2.1
  rw [q6, m6, c1, c2, ← ca, ← cb, ← c3, ← cc]
  omega

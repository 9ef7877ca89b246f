/-! my own base: loops, ranges, bits -/
theorem wfm {σ : Type} (μ : σ → Nat) {P G : σ → Prop} (h : ∀ s, P s → (∀ s', μ s' < μ s → P s' → G s') → G s) (s : σ) (hs : P s) : G s := by
  have key : ∀ n s, μ s < n → P s → G s := by
    intro n
    induction n with
    | zero => intro s h0; omega
    | succ n ih => intro s h1 h2; exact h s h2 (fun s' h3 h4 => ih s' (by omega) h4)
  exact key (μ s + 1) s (by omega) hs
/-- a loop that counts up -/
theorem lup {σ : Type} {n : Int} {I G : Int → σ → Prop} (hs : ∀ i s, i < n → I i s → (∀ s', I (i + 1) s' → G (i + 1) s') → G i s) (he : ∀ i s, n ≤ i → I i s → G i s) (i : Int) (s : σ) (h : I i s) : G i s := by
  have key : ∀ (k : Nat) (i : Int) (s : σ), n ≤ i + k → I i s → G i s := by
    intro k
    induction k with
    | zero => intro i s h1 h2; exact he i s (by omega) h2
    | succ k ih =>
      intro i s h1 h2
      by_cases h : n ≤ i
      · exact he i s h h2
      · exact hs i s (by omega) h2 (fun s' h3 => ih (i + 1) s' (by omega) h3)
  exact key (n - i).toNat i s (by omega) h
/-- a loop that counts down to 0 -/
theorem ldn {σ : Type} {I G : Int → σ → Prop} (hs : ∀ i s, 0 ≤ i → I i s → (∀ s', I (i - 1) s' → G (i - 1) s') → G i s) (he : ∀ i s, i < 0 → I i s → G i s) (i : Int) (s : σ) (h : I i s) : G i s := by
  have key : ∀ (k : Nat) (i : Int) (s : σ), i < k → I i s → G i s := by
    intro k
    induction k with
    | zero => intro i s h1 h2; exact he i s (by omega) h2
    | succ k ih =>
      intro i s h1 h2
      by_cases h : i < 0
      · exact he i s h h2
      · exact hs i s (by omega) h2 (fun s' h3 => ih (i - 1) s' (by omega) h3)
  exact key (i + 1).toNat i s (by omega) h
theorem GL_ok {y : jY} {m : jM} {pc : Nat} {ls st : List jV} {Q : Int → jM → Prop} (h : jmok SH m → jok ls → jok st → GL y m pc ls st Q) : GL y m pc ls st Q :=
  fun hL w p l e R s mm args below meth c H locs cells slots c0 s0 Z la C hH hS hl h1 h2 => h hH.2.2.1 h1 h2 hL w p l e R s mm args below meth c H locs cells slots c0 s0 Z la C hH hS hl h1 h2
theorem ML_ok {y : jY} {av : List jV} {m : jM} {Q : Int → jM → Prop} (h : jmok SH m → jok av → ML y av m Q) : ML y av m Q :=
  fun hL w l p e ha hc hk s mm args below hf hpre hP hT => h hP.2.1.2.2.1 hP.2.2.1 hL w l p e ha hc hk s mm args below hf hpre hP hT
theorem rng0 {m : jM} {p i : Int} {n : Nat} (h : jmok SH m) (ha : jat SH p 0 n) (h0 : 0 ≤ i) (hi : i < n) : -2147483648 ≤ m p i ∧ m p i ≤ 2147483647 := by
  have := h p.toNat (0, n) ha.2 i.toNat (by simp only; omega)
  rw [j_cast ha.1, j_cast h0] at this
  exact this.1 rfl
theorem rng2 {m : jM} {p i : Int} {n : Nat} (h : jmok SH m) (ha : jat SH p 2 n) (h0 : 0 ≤ i) (hi : i < n) : -2147483648 ≤ m p i ∧ m p i ≤ 2147483647 := by
  have := h p.toNat (2, n) ha.2 i.toNat (by simp only; omega)
  rw [j_cast ha.1, j_cast h0] at this
  exact this.1 rfl
theorem jok_0 {l : List jV} {i : Nat} {x : Int} (h : jok l) (hi : l[i]? = some (0, x)) : -2147483648 ≤ x ∧ x ≤ 2147483647 := (jok_at h hi).1 rfl
/-! bits -/
theorem p2le {b c : Nat} (h : b ≤ c) : (2 : Int) ^ b ≤ 2 ^ c := by
  rcases Nat.lt_or_ge b c with g | g
  · exact Int.le_of_lt (Int.pow_lt_pow_of_lt (by decide) g)
  · rw [Nat.le_antisymm h g]
    exact Int.le_refl _
def bt (x : Int32) (i : Nat) : Bool := x.toBitVec.getLsbD i
theorem b_ext {x y : Int32} (h : ∀ i, i < 32 → bt x i = bt y i) : x = y := Int32.toBitVec_inj.mp (BitVec.eq_of_getLsbD_eq (fun i hi => h i hi))
theorem b_or (x y : Int32) (i : Nat) : bt (x ||| y) i = (bt x i || bt y i) := by unfold bt; rw [Int32.toBitVec_or, BitVec.getLsbD_or]
theorem b_and (x y : Int32) (i : Nat) : bt (x &&& y) i = (bt x i && bt y i) := by unfold bt; rw [Int32.toBitVec_and, BitVec.getLsbD_and]
theorem b_xor (x y : Int32) (i : Nat) : bt (x ^^^ y) i = (bt x i ^^ bt y i) := by unfold bt; rw [Int32.toBitVec_xor, BitVec.getLsbD_xor]
def tb (a i : Int) : Bool := decide (a / 2 ^ i.toNat % 2 = 1)
theorem tb_bt (x : Int32) {i : Nat} (hi : i < 32) : bt x i = tb x.toInt i := by
  unfold bt tb
  show x.toBitVec.toNat.testBit i = decide (x.toBitVec.toInt / 2 ^ (i : Int).toNat % 2 = 1)
  rw [Nat.testBit_eq_decide_div_mod_eq, BitVec.toInt_eq_toNat_cond, Int.toNat_natCast]
  generalize x.toBitVec.toNat = n
  apply decide_eq_decide.mpr
  split
  · constructor
    · intro h
      have : ((n / 2 ^ i % 2 : Nat) : Int) = ((1 : Nat) : Int) := by rw [h]
      simpa using this
    · intro h
      have h2 : ((n / 2 ^ i % 2 : Nat) : Int) = ((1 : Nat) : Int) := by simpa using h
      exact Int.ofNat.inj h2
  · have e : ((2 ^ 32 : Nat) : Int) = (2 ^ (31 - i) * 2) * 2 ^ i := by
      have : (2 : Int) ^ 32 = 2 ^ (31 - i) * 2 ^ 1 * 2 ^ i := by
        rw [← Int.pow_add, ← Int.pow_add]
        congr 1
        omega
      simpa using this
    have h0 : (2 : Int) ^ i ≠ 0 := Int.ne_of_gt (Int.pow_pos (by decide))
    have e2 : ((n : Int) - ((2 ^ 32 : Nat) : Int)) / 2 ^ i = (n : Int) / 2 ^ i - 2 ^ (31 - i) * 2 := by
      rw [e, Int.sub_eq_add_neg, ← Int.neg_mul, Int.add_mul_ediv_right _ _ h0, Int.sub_eq_add_neg]
    rw [e2]
    have e3 : ((n / 2 ^ i : Nat) : Int) = (n : Int) / 2 ^ i := by simp
    rw [← e3]
    generalize (2 : Int) ^ (31 - i) = z
    generalize n / 2 ^ i = k
    omega
theorem tb_of {a : Int} (ha : -2147483648 ≤ a ∧ a ≤ 2147483647) {i : Int} (h0 : 0 ≤ i) (hi : i < 32) : bt (Int32.ofInt a) i.toNat = tb a i := by
  rw [tb_bt _ (by omega), j_i ⟨fun _ => ha, fun h => (by cases h)⟩]
  congr 1
  omega
theorem tb_to {x : Int32} {i : Int} (h0 : 0 ≤ i) (hi : i < 32) : tb x.toInt i = bt x i.toNat := by
  rw [tb_bt _ (by omega)]
  congr 1
  omega
theorem i32_in (x : Int32) : -2147483648 ≤ x.toInt ∧ x.toInt ≤ 2147483647 := (j_ok32 x).1 rfl
theorem jand_in (a b : Int) : -2147483648 ≤ jand a b ∧ jand a b ≤ 2147483647 := i32_in _
theorem jor_in (a b : Int) : -2147483648 ≤ jor a b ∧ jor a b ≤ 2147483647 := i32_in _
theorem jxor_in (a b : Int) : -2147483648 ≤ jxor a b ∧ jxor a b ≤ 2147483647 := i32_in _
theorem jshl_in (a b : Int) : -2147483648 ≤ jshl a b ∧ jshl a b ≤ 2147483647 := i32_in _
theorem jshr_in (a b : Int) : -2147483648 ≤ jshr a b ∧ jshr a b ≤ 2147483647 := i32_in _
theorem tb_and {a b i : Int} (ha : -2147483648 ≤ a ∧ a ≤ 2147483647) (hb : -2147483648 ≤ b ∧ b ≤ 2147483647) (h0 : 0 ≤ i) (hi : i < 32) : tb (jand a b) i = (tb a i && tb b i) := by
  unfold jand
  rw [tb_to h0 hi, b_and, tb_of ha h0 hi, tb_of hb h0 hi]
theorem tb_or {a b i : Int} (ha : -2147483648 ≤ a ∧ a ≤ 2147483647) (hb : -2147483648 ≤ b ∧ b ≤ 2147483647) (h0 : 0 ≤ i) (hi : i < 32) : tb (jor a b) i = (tb a i || tb b i) := by
  unfold jor
  rw [tb_to h0 hi, b_or, tb_of ha h0 hi, tb_of hb h0 hi]
theorem tb_xor {a b i : Int} (ha : -2147483648 ≤ a ∧ a ≤ 2147483647) (hb : -2147483648 ≤ b ∧ b ≤ 2147483647) (h0 : 0 ≤ i) (hi : i < 32) : tb (jxor a b) i = (tb a i ^^ tb b i) := by
  unfold jxor
  rw [tb_to h0 hi, b_xor, tb_of ha h0 hi, tb_of hb h0 hi]
theorem tb_ext {a b : Int} (ha : -2147483648 ≤ a ∧ a ≤ 2147483647) (hb : -2147483648 ≤ b ∧ b ≤ 2147483647) (h : ∀ i, 0 ≤ i → i < 32 → tb a i = tb b i) : a = b := by
  have : Int32.ofInt a = Int32.ofInt b := b_ext (fun i hi => by
    have := h i (by omega) (by omega)
    rw [← tb_of ha (by omega) (by omega), ← tb_of hb (by omega) (by omega)] at this
    simpa using this)
  exact (j_eq ⟨fun _ => ha, fun h => (by cases h)⟩ ⟨fun _ => hb, fun h => (by cases h)⟩).mp this
theorem tb_neg {a i : Int} : tb (-a - 1) i = !tb a i := by
  unfold tb
  generalize hp : (2 : Int) ^ i.toNat = p
  have hp0 : 0 < p := by rw [← hp]; exact Int.pow_pos (by decide)
  have e : (-a - 1) / p = -(a / p) - 1 := by
    have h1 := Int.mul_ediv_add_emod a p
    have h2 := Int.emod_nonneg a (Int.ne_of_gt hp0)
    have h3 := Int.emod_lt_of_pos a hp0
    rw [show -a - 1 = (p - 1 - a % p) + p * (-(a / p) - 1) by rw [Int.mul_sub, Int.mul_neg]; omega]
    rw [Int.add_mul_ediv_left _ _ (Int.ne_of_gt hp0), Int.ediv_eq_zero_of_lt (by omega) (by omega)]
    omega
  rw [e, ← decide_not]
  apply decide_eq_decide.mpr
  generalize a / p = k
  omega
theorem tb_zero (i : Int) : tb 0 i = false := by simp [tb]
theorem tb_m1 (i : Int) : tb (-1) i = true := by
  have := tb_neg (a := 0) (i := i)
  rw [tb_zero] at this
  simpa using this
theorem jnot {a : Int} (ha : -2147483648 ≤ a ∧ a ≤ 2147483647) : jxor a (-1) = -a - 1 := by
  refine tb_ext (jxor_in _ _) (by omega) (fun i h0 hi => ?_)
  rw [tb_xor ha (by omega) h0 hi, tb_m1, tb_neg]
  cases tb a i <;> rfl
theorem tb_not {a i : Int} (ha : -2147483648 ≤ a ∧ a ≤ 2147483647) : tb (jxor a (-1)) i = !tb a i := by rw [jnot ha, tb_neg]
theorem tb_shr {a : Int} {k i : Int} (hk : 0 ≤ k) (h0 : 0 ≤ i) : tb (a / 2 ^ k.toNat) i = tb a (k + i) := by
  unfold tb
  rw [Int.ediv_ediv_of_nonneg (Int.le_of_lt (Int.pow_pos (by decide))), ← Int.pow_add]
  congr 5
  omega
theorem jshr_lem : ∀ k : Nat, k < 32 → ((Int32.ofInt (k : Int) &&& 31).toBitVec.smod 32).toNat = k := by decide +kernel
theorem jshr_eq {a k : Int} (ha : -2147483648 ≤ a ∧ a ≤ 2147483647) (hk : 0 ≤ k) (hk2 : k < 32) : jshr a k = a / 2 ^ k.toNat := by
  unfold jshr
  show (Int32.ofInt a >>> (Int32.ofInt k &&& 31)).toBitVec.toInt = _
  rw [Int32.toBitVec_shiftRight]
  have := jshr_lem k.toNat (by omega)
  rw [Int.toNat_of_nonneg hk] at this
  show ((Int32.ofInt a).toBitVec.sshiftRight ((Int32.ofInt k &&& 31).toBitVec.smod 32).toNat).toInt = _
  rw [this, BitVec.toInt_sshiftRight]
  show (Int32.ofInt a).toInt >>> k.toNat = _
  rw [j_i ⟨fun _ => ha, fun h => (by cases h)⟩, Int.shiftRight_eq_div_pow]
  simp
theorem tb_one : ∀ i : Int, 0 ≤ i → tb 1 i = decide (i = 0) := by
  intro i h0
  by_cases h : i = 0
  · subst h; rfl
  · rw [decide_eq_false h]
    unfold tb
    rw [decide_eq_false]
    rw [Int.ediv_eq_zero_of_lt (by decide)]
    · decide
    · have : (2 : Int) ^ 1 ≤ 2 ^ i.toNat := p2le (by omega)
      omega
theorem jshr_bit {a k : Int} (ha : -2147483648 ≤ a ∧ a ≤ 2147483647) (hk : 0 ≤ k) (hk2 : k < 32) : jand (jshr a k) 1 = if tb a k = true then 1 else 0 := by
  refine tb_ext (jand_in _ _) (by split <;> omega) (fun i h0 hi => ?_)
  rw [tb_and (jshr_in _ _) (by omega) h0 hi, jshr_eq ha hk hk2, tb_shr hk h0, tb_one i h0]
  by_cases h : i = 0
  · subst h
    rw [Int.add_zero]
    cases tb a k <;> simp <;> rfl
  · rw [decide_eq_false h]
    split
    · rw [tb_one i h0, decide_eq_false h]; simp
    · rw [tb_zero]; simp
theorem jshl1 : ∀ k : Int, 0 ≤ k → k < 31 → jshl 1 k = 2 ^ k.toNat := by
  intro k h0 h1
  have := (by decide +kernel : ∀ k : Fin 31, jshl 1 ((k : Nat) : Int) = 2 ^ (k : Nat)) ⟨k.toNat, by omega⟩
  simpa [Int.toNat_of_nonneg h0] using this
theorem tb_pow {k i : Int} (hk : 0 ≤ k) (h0 : 0 ≤ i) : tb (2 ^ k.toNat) i = decide (i = k) := by
  unfold tb
  by_cases h : i = k
  · subst h
    rw [Int.ediv_self (Int.ne_of_gt (Int.pow_pos (by decide)))]
    simp
  · rw [decide_eq_false h]
    by_cases h2 : i < k
    · have e : (2 : Int) ^ k.toNat = 2 ^ (k.toNat - i.toNat - 1) * 2 * 2 ^ i.toNat := by
        rw [show (2 : Int) ^ (k.toNat - i.toNat - 1) * 2 = 2 ^ (k.toNat - i.toNat - 1 + 1) from (Int.pow_succ ..).symm, ← Int.pow_add]
        congr 1
        omega
      rw [e, Int.mul_ediv_cancel _ (Int.ne_of_gt (Int.pow_pos (by decide)))]
      generalize (2 : Int) ^ (k.toNat - i.toNat - 1) = z
      simp
    · rw [Int.ediv_eq_zero_of_lt (Int.le_of_lt (Int.pow_pos (by decide)))]
      · simp
      · exact Int.pow_lt_pow_of_lt (by decide) (by omega)
theorem tb_shl1 {k i : Int} (hk : 0 ≤ k) (hk2 : k < 31) (h0 : 0 ≤ i) : tb (jshl 1 k) i = decide (i = k) := by rw [jshl1 k hk hk2, tb_pow hk h0]
theorem tb_lt {a k i : Int} (h0 : 0 ≤ a) (h : a < 2 ^ k.toNat) (hk : 0 ≤ k) (hi : k ≤ i) : tb a i = false := by
  unfold tb
  rw [decide_eq_false]
  rw [Int.ediv_eq_zero_of_lt h0]
  · decide
  · exact Int.lt_of_lt_of_le h (p2le (by omega))
theorem tb_hi {a i : Int} (h0 : 0 ≤ a) (hi : 31 ≤ i) (h : a ≤ 2147483647) : tb a i = false := tb_lt (k := 31) h0 (by show a < 2147483648; omega) (by decide) hi
theorem tb_nn {a : Int} (ha : -2147483648 ≤ a ∧ a ≤ 2147483647) : 0 ≤ a ↔ tb a 31 = false := by
  constructor
  · intro h; exact tb_hi h (by decide) ha.2
  · intro h
    apply Int.not_lt.mp
    intro h2
    have : tb (-a - 1) 31 = false := tb_hi (by omega) (by decide) (by omega)
    rw [tb_neg, h] at this
    cases this
theorem tb_top {a : Int} {k : Nat} (h0 : 0 ≤ a) (ha : a ≤ 2147483647) (h : ∀ i : Int, k ≤ i → i < 31 → tb a i = false) (hk : k ≤ 31) : a < 2 ^ k := by
  have : a % 2 ^ k = a := by
    have e := Int.emod_nonneg a (b := 2 ^ k) (Int.ne_of_gt (Int.pow_pos (by decide)))
    have e2 := Int.emod_lt_of_pos a (b := 2 ^ k) (Int.pow_pos (by decide))
    have e3 : (2 : Int) ^ k ≤ 2 ^ 31 := p2le hk
    have e4 : (2 : Int) ^ 31 = 2147483648 := by decide
    refine tb_ext (by omega) (by omega) (fun i h0' hi => ?_)
    by_cases hik : i < k
    · unfold tb
      have q : a = a % 2 ^ k + 2 ^ k * (a / 2 ^ k) := (Int.emod_add_mul_ediv a (2 ^ k)).symm
      have e5 : (2 : Int) ^ k = 2 ^ i.toNat * (2 ^ (k - i.toNat - 1) * 2) := by
        rw [show (2 : Int) ^ (k - i.toNat - 1) * 2 = 2 ^ (k - i.toNat - 1 + 1) from (Int.pow_succ ..).symm, ← Int.pow_add]
        congr 1
        omega
      apply decide_eq_decide.mpr
      rw [iff_iff_eq]
      congr 1
      conv => rhs; rw [q]
      conv => rhs; rw [show (2 : Int) ^ k * (a / 2 ^ k) = 2 ^ i.toNat * ((2 ^ (k - i.toNat - 1) * 2) * (a / 2 ^ k)) by rw [← Int.mul_assoc, ← e5]]
      rw [Int.add_mul_ediv_left _ _ (Int.ne_of_gt (Int.pow_pos (by decide)))]
      generalize (a % 2 ^ k) / 2 ^ i.toNat = u
      rw [show (2 : Int) ^ (k - i.toNat - 1) * 2 * (a / 2 ^ k) = 2 * (2 ^ (k - i.toNat - 1) * (a / 2 ^ k)) by rw [Int.mul_comm _ 2, Int.mul_assoc]]
      generalize (2 : Int) ^ (k - i.toNat - 1) * (a / 2 ^ k) = w
      omega
    · rw [tb_lt (k := k) e (by simpa using e2) (by omega) (by omega)]
      by_cases h31 : i < 31
      · rw [h i (by omega) h31]
      · rw [tb_hi h0 (by omega) ha]
  have := Int.emod_lt_of_pos a (b := 2 ^ k) (Int.pow_pos (by decide))
  omega
theorem jand_nn {a b : Int} (ha : 0 ≤ a ∧ a ≤ 2147483647) (hb : -2147483648 ≤ b ∧ b ≤ 2147483647) : 0 ≤ jand a b := by
  rw [tb_nn (jand_in _ _), tb_and (by omega) hb (by decide) (by decide), (tb_nn (by omega)).mp ha.1]
  rfl
theorem jand_lt {a b : Int} {k : Nat} (ha : 0 ≤ a ∧ a ≤ 2147483647) (hb : -2147483648 ≤ b ∧ b ≤ 2147483647) (hk : k ≤ 31) (h : a < 2 ^ k) : jand a b < 2 ^ k := by
  refine tb_top (jand_nn ha hb) (jand_in _ _).2 (fun i h1 h2 => ?_) hk
  rw [tb_and (by omega) hb (by omega) (by omega), tb_lt (k := (k : Int)) ha.1 (by simpa using h) (by omega) h1]
  rfl
theorem jand_nn2 {a b : Int} (hb : 0 ≤ b ∧ b ≤ 2147483647) (ha : -2147483648 ≤ a ∧ a ≤ 2147483647) : 0 ≤ jand a b := by
  rw [tb_nn (jand_in _ _), tb_and ha (by omega) (by decide) (by decide), (tb_nn (by omega)).mp hb.1]
  simp
theorem jand_lt2 {a b : Int} {k : Nat} (hb : 0 ≤ b ∧ b ≤ 2147483647) (ha : -2147483648 ≤ a ∧ a ≤ 2147483647) (hk : k ≤ 31) (h : b < 2 ^ k) : jand a b < 2 ^ k := by
  refine tb_top (jand_nn2 hb ha) (jand_in _ _).2 (fun i h1 h2 => ?_) hk
  rw [tb_and ha (by omega) (by omega) (by omega), tb_lt (k := (k : Int)) hb.1 (by simpa using h) (by omega) h1]
  simp
theorem jor_nn {a b : Int} (ha : 0 ≤ a ∧ a ≤ 2147483647) (hb : 0 ≤ b ∧ b ≤ 2147483647) : 0 ≤ jor a b := by
  rw [tb_nn (jor_in _ _), tb_or (by omega) (by omega) (by decide) (by decide), (tb_nn (by omega)).mp ha.1, (tb_nn (by omega)).mp hb.1]
  rfl
theorem jor_lt {a b : Int} {k : Nat} (ha : 0 ≤ a ∧ a < 2 ^ k) (hb : 0 ≤ b ∧ b < 2 ^ k) (hk : k ≤ 31) : jor a b < 2 ^ k := by
  have e3 : (2 : Int) ^ k ≤ 2 ^ 31 := p2le hk
  have e4 : (2 : Int) ^ 31 = 2147483648 := by decide
  refine tb_top (jor_nn (by omega) (by omega)) (jor_in _ _).2 (fun i h1 h2 => ?_) hk
  rw [tb_or (by omega) (by omega) (by omega) (by omega), tb_lt (k := (k : Int)) ha.1 (by simpa using ha.2) (by omega) h1, tb_lt (k := (k : Int)) hb.1 (by simpa using hb.2) (by omega) h1]
  rfl
theorem jxor_nn {a b : Int} (ha : 0 ≤ a ∧ a ≤ 2147483647) (hb : 0 ≤ b ∧ b ≤ 2147483647) : 0 ≤ jxor a b := by
  rw [tb_nn (jxor_in _ _), tb_xor (by omega) (by omega) (by decide) (by decide), (tb_nn (by omega)).mp ha.1, (tb_nn (by omega)).mp hb.1]
  rfl
theorem jxor_lt {a b : Int} {k : Nat} (ha : 0 ≤ a ∧ a < 2 ^ k) (hb : 0 ≤ b ∧ b < 2 ^ k) (hk : k ≤ 31) : jxor a b < 2 ^ k := by
  have e3 : (2 : Int) ^ k ≤ 2 ^ 31 := p2le hk
  have e4 : (2 : Int) ^ 31 = 2147483648 := by decide
  refine tb_top (jxor_nn (by omega) (by omega)) (jxor_in _ _).2 (fun i h1 h2 => ?_) hk
  rw [tb_xor (by omega) (by omega) (by omega) (by omega), tb_lt (k := (k : Int)) ha.1 (by simpa using ha.2) (by omega) h1, tb_lt (k := (k : Int)) hb.1 (by simpa using hb.2) (by omega) h1]
  rfl
theorem p2_31 {k : Int} (h0 : 0 ≤ k) (h : k < 31) : 0 < (2 : Int) ^ k.toNat ∧ (2 : Int) ^ k.toNat ≤ 1073741824 := by
  refine ⟨Int.pow_pos (by decide), ?_⟩
  have e3 : (2 : Int) ^ k.toNat ≤ 2 ^ 30 := p2le (by omega)
  simpa using e3
theorem jshl1_in {k : Int} (h0 : 0 ≤ k) (h : k < 31) : 0 < jshl 1 k ∧ jshl 1 k ≤ 1073741824 := by rw [jshl1 k h0 h]; exact p2_31 h0 h
/-- sets below 2^k are alike if their bits below k are -/
theorem tb_ext2 {a b : Int} {k : Nat} (hk : k ≤ 31) (ha : 0 ≤ a ∧ a < 2 ^ k) (hb : 0 ≤ b ∧ b < 2 ^ k) (h : ∀ i : Int, 0 ≤ i → i < k → tb a i = tb b i) : a = b := by
  have e3 : (2 : Int) ^ k ≤ 2 ^ 31 := p2le hk
  have e4 : (2 : Int) ^ 31 = 2147483648 := by decide
  refine tb_ext (by omega) (by omega) (fun i h0 hi => ?_)
  by_cases hik : i < k
  · exact h i h0 hik
  · rw [tb_lt (k := (k : Int)) ha.1 (by simpa using ha.2) (by omega) (by omega), tb_lt (k := (k : Int)) hb.1 (by simpa using hb.2) (by omega) (by omega)]
/-! loops with more than one thing that they carry -/
theorem lup2 {σ τ : Type} {n : Int} {I G : Int → σ → τ → Prop} (hs : ∀ i s t, i < n → I i s t → (∀ s' t', I (i + 1) s' t' → G (i + 1) s' t') → G i s t) (he : ∀ i s t, n ≤ i → I i s t → G i s t) (i : Int) (s : σ) (t : τ) (h : I i s t) : G i s t :=
  lup (σ := σ × τ) (I := fun i p => I i p.1 p.2) (G := fun i p => G i p.1 p.2) (fun i p h1 h2 k => hs i p.1 p.2 h1 h2 (fun s' t' h3 => k (s', t') h3)) (fun i p h1 h2 => he i p.1 p.2 h1 h2) i (s, t) h
theorem lup3 {σ τ υ : Type} {n : Int} {I G : Int → σ → τ → υ → Prop} (hs : ∀ i s t u, i < n → I i s t u → (∀ s' t' u', I (i + 1) s' t' u' → G (i + 1) s' t' u') → G i s t u) (he : ∀ i s t u, n ≤ i → I i s t u → G i s t u) (i : Int) (s : σ) (t : τ) (u : υ) (h : I i s t u) : G i s t u :=
  lup2 (σ := σ × τ) (I := fun i p => I i p.1 p.2) (G := fun i p => G i p.1 p.2) (fun i p u h1 h2 k => hs i p.1 p.2 u h1 h2 (fun s' t' u' h3 => k (s', t') u' h3)) (fun i p u h1 h2 => he i p.1 p.2 u h1 h2) i (s, t) u h
theorem lup4 {σ τ υ φ : Type} {n : Int} {I G : Int → σ → τ → υ → φ → Prop} (hs : ∀ i s t u v, i < n → I i s t u v → (∀ s' t' u' v', I (i + 1) s' t' u' v' → G (i + 1) s' t' u' v') → G i s t u v) (he : ∀ i s t u v, n ≤ i → I i s t u v → G i s t u v) (i : Int) (s : σ) (t : τ) (u : υ) (v : φ) (h : I i s t u v) : G i s t u v :=
  lup3 (σ := σ × τ) (I := fun i p => I i p.1 p.2) (G := fun i p => G i p.1 p.2) (fun i p u v h1 h2 k => hs i p.1 p.2 u v h1 h2 (fun s' t' u' v' h3 => k (s', t') u' v' h3)) (fun i p u v h1 h2 => he i p.1 p.2 u v h1 h2) i (s, t) u v h
theorem ldn2 {σ τ : Type} {I G : Int → σ → τ → Prop} (hs : ∀ i s t, 0 ≤ i → I i s t → (∀ s' t', I (i - 1) s' t' → G (i - 1) s' t') → G i s t) (he : ∀ i s t, i < 0 → I i s t → G i s t) (i : Int) (s : σ) (t : τ) (h : I i s t) : G i s t :=
  ldn (σ := σ × τ) (I := fun i p => I i p.1 p.2) (G := fun i p => G i p.1 p.2) (fun i p h1 h2 k => hs i p.1 p.2 h1 h2 (fun s' t' h3 => k (s', t') h3)) (fun i p h1 h2 => he i p.1 p.2 h1 h2) i (s, t) h

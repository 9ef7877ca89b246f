/-! riders, what is parted, what is good, what it costs -/
def mkS (f : Int → Bool) : Nat → Int
  | 0 => 0
  | n + 1 => if f n = true then jor (mkS f n) (jshl 1 n) else mkS f n
theorem mkS_ok (f : Int → Bool) : ∀ n : Nat, n ≤ 30 → 0 ≤ mkS f n ∧ mkS f n < 2 ^ n ∧ ∀ i, 0 ≤ i → i < 32 → tb (mkS f n) i = (decide (i < n) && f i) := by
  intro n
  induction n with
  | zero =>
    intro _
    refine ⟨Int.le_refl _, by simp only [mkS]; decide, fun i i0 i1 => ?_⟩
    simp only [mkS]
    rw [tb_zero, decide_eq_false (by omega)]
    rfl
  | succ n ih =>
    intro hn
    obtain ⟨h0, h1, h2⟩ := ih (by omega)
    have e1 : (2 : Int) ^ n ≤ 2 ^ (n + 1) := p2le (by omega)
    have e2 : (2 : Int) ^ n ≤ 2 ^ 30 := p2le (by omega)
    have e3 : (2 : Int) ^ 30 = 1073741824 := by decide
    have s1 := jshl1_in (k := (n : Int)) (by omega) (by omega)
    have s2 : jshl 1 (n : Int) < 2 ^ (n + 1) := by
      rw [jshl1 _ (by omega) (by omega), Int.toNat_natCast]
      exact Int.pow_lt_pow_of_lt (by decide) (by omega)
    simp only [mkS]
    split
    · rename_i q
      refine ⟨jor_nn (by omega) (by omega), jor_lt ⟨h0, by omega⟩ ⟨by omega, s2⟩ (by omega), fun i i0 i1 => ?_⟩
      rw [tb_or (by omega) (by omega) i0 i1, h2 i i0 i1, tb_shl1 (by omega) (by omega) i0]
      by_cases e : i = n
      · rw [e, decide_eq_true rfl, decide_eq_true (show (n : Int) < ((n + 1 : Nat) : Int) by omega), q]; simp
      · rw [decide_eq_false e, Bool.or_false]
        congr 1
        apply decide_eq_decide.mpr
        omega
    · rename_i q
      refine ⟨h0, by omega, fun i i0 i1 => ?_⟩
      rw [h2 i i0 i1]
      by_cases e : i = n
      · rw [e]
        simp only [Bool.not_eq_true] at q
        rw [q, Bool.and_false, Bool.and_false]
      · congr 1
        apply decide_eq_decide.mpr
        omega
/-- child c of the school s rides at the stop p -/
def rid (V : jM) (s p c : Int) : Prop := 0 ≤ c ∧ c < V 0 7 ∧ V 12 (V 15 c) = s ∧ vStp V c = p
noncomputable def rdF (V : jM) (s p : Int) : Int → Int := fun c => if V 12 (V 15 c) = s ∧ vStp V c = p then 1 else 0
noncomputable def stF (V : jM) (s p : Int) : Int → Int := fun c => if V 12 (V 15 c) = s ∧ vStp V c = p then (if jand (V 14 (V 15 c)) 2 = 0 then 1 else 2) else 0
/-- how many ride at a stop, and their seats -/
noncomputable def rdN (V : jM) (s p : Int) : Int := sumN (rdF V s p) (V 0 7).toNat
noncomputable def stN (V : jM) (s p : Int) : Int := sumN (stF V s p) (V 0 7).toNat
/-- the stops that have riders -/
noncomputable def srv (V : jM) (s : Int) : Int := mkS (fun p => decide (rdN V s p ≠ 0)) (V 0 3).toNat
theorem sumN_0 {f : Int → Int} : ∀ (n : Nat), (∀ i : Int, 0 ≤ i → i < n → 0 ≤ f i) → (sumN f n ≠ 0 ↔ ∃ i : Int, 0 ≤ i ∧ i < n ∧ f i ≠ 0) := by
  intro n
  induction n with
  | zero => intro h; exact ⟨fun z => absurd rfl z, fun ⟨i, i0, i1, _⟩ => by omega⟩
  | succ n ih =>
    intro h
    have hi := ih (fun i i0 i1 => h i i0 (by omega))
    have nn := sumN_ge (f := f) (L := 0) n (fun i i0 i1 => h i i0 (by omega))
    have hn := h n (by omega) (by omega)
    simp only [sumN]
    constructor
    · intro z
      by_cases e : f n = 0
      · obtain ⟨i, i0, i1, i2⟩ := hi.mp (by omega)
        exact ⟨i, i0, by omega, i2⟩
      · exact ⟨n, by omega, by omega, e⟩
    · rintro ⟨i, i0, i1, i2⟩
      by_cases e : i = n
      · rw [e] at i2; omega
      · have := hi.mpr ⟨i, i0, by omega, i2⟩
        omega
theorem sumN_ext {f g : Int → Int} {K : Nat} (h : ∀ i : Int, 0 ≤ i → i < K → f i = g i) : ∀ d : Nat, (∀ i : Int, K ≤ i → i < K + d → f i = 0) → sumN f (K + d) = sumN g K := by
  intro d
  induction d with
  | zero => intro _; exact sumN_cg K h
  | succ d ih =>
    intro h2
    show sumN f (K + d) + f ((K + d : Nat) : Int) = _
    rw [ih (fun i i0 i1 => h2 i i0 (by omega)), h2 _ (by omega) (by omega), Int.add_zero]
theorem rdN_iff {V : jM} (h7 : 0 ≤ V 0 7) (s p : Int) : rdN V s p ≠ 0 ↔ ∃ c, rid V s p c := by
  unfold rdN
  rw [sumN_0 _ (fun i _ _ => by unfold rdF; split <;> omega)]
  constructor
  · rintro ⟨i, i0, i1, i2⟩
    unfold rdF at i2
    split at i2
    · rename_i q; exact ⟨i, i0, by omega, q.1, q.2⟩
    · exact absurd rfl i2
  · rintro ⟨c, c0, c1, c2, c3⟩
    refine ⟨c, c0, by omega, ?_⟩
    unfold rdF
    rw [if_pos ⟨c2, c3⟩]
    decide
theorem rdN_in {V : jM} (h7 : 0 ≤ V 0 7) (h20 : V 0 7 ≤ 20) (s p : Int) : 0 ≤ rdN V s p ∧ rdN V s p ≤ 20 ∧ 0 ≤ stN V s p ∧ stN V s p ≤ 40 := by
  have a := sumN_ge (f := rdF V s p) (L := 0) (V 0 7).toNat (fun i _ _ => by unfold rdF; split <;> omega)
  have b := sumN_le (f := rdF V s p) (L := 1) (V 0 7).toNat (fun i _ _ => by unfold rdF; split <;> omega)
  have c := sumN_ge (f := stF V s p) (L := 0) (V 0 7).toNat (fun i _ _ => by unfold stF; split <;> (try split) <;> omega)
  have d := sumN_le (f := stF V s p) (L := 2) (V 0 7).toNat (fun i _ _ => by unfold stF; split <;> (try split) <;> omega)
  unfold rdN stN
  omega
theorem rid_un {V : jM} {s p q c : Int} (h : rid V s p c) (h2 : rid V s q c) : p = q := h.2.2.2.symm.trans h2.2.2.2
theorem srv_ok {V : jM} (hk : vKt V) (s : Int) : 0 ≤ srv V s ∧ srv V s < 64 ∧ srv V s < 2 ^ (V 0 3).toNat ∧ ∀ p, 0 ≤ p → p < 32 → (tb (srv V s) p = true ↔ p < V 0 3 ∧ rdN V s p ≠ 0) := by
  have h0 := hk.1
  obtain ⟨a, b, c⟩ := mkS_ok (fun p => decide (rdN V s p ≠ 0)) (V 0 3).toNat (by omega)
  have e : (2 : Int) ^ (V 0 3).toNat ≤ 2 ^ 6 := p2le (by omega)
  have e2 : (2 : Int) ^ 6 = 64 := by decide
  refine ⟨a, by unfold srv; omega, b, fun p p0 p1 => ?_⟩
  unfold srv
  rw [c p p0 p1, Bool.and_eq_true, decide_eq_true_iff, decide_eq_true_iff]
  constructor
  · intro z; exact ⟨by omega, z.2⟩
  · intro z; exact ⟨by omega, z.2⟩
/-- two children are parted -/
def pAp (V : jM) (n a b : Int) : Prop := ∃ f, 0 ≤ f ∧ f < n ∧ V 10 f = 4 ∧ vLv V f ∧ ((V 11 f = a ∧ V 12 f = b) ∨ (V 11 f = b ∧ V 12 f = a))
theorem pAp_s {V : jM} {n a b : Int} (n0 : 0 ≤ n) : pAp V (n + 1) a b ↔ pAp V n a b ∨ (V 10 n = 4 ∧ vLv V n ∧ ((V 11 n = a ∧ V 12 n = b) ∨ (V 11 n = b ∧ V 12 n = a))) := by
  constructor
  · rintro ⟨f, f0, f1, h⟩
    by_cases e : f = n
    · rw [e] at h; exact Or.inr h
    · exact Or.inl ⟨f, f0, by omega, h⟩
  · rintro (⟨f, f0, f1, h⟩ | h)
    · exact ⟨f, f0, by omega, h⟩
    · exact ⟨n, n0, by omega, h⟩
theorem pAp_sym {V : jM} {n a b : Int} (h : pAp V n a b) : pAp V n b a := by
  obtain ⟨f, f0, f1, f2, f3, f4⟩ := h
  exact ⟨f, f0, f1, f2, f3, f4.symm⟩
/-- of a set of stops: two riders are parted; one needs a nurse; the seats; good; the pay -/
def ptd (V : jM) (s x : Int) : Prop := ∃ p q a b, 0 ≤ p ∧ p < 6 ∧ tb x p = true ∧ 0 ≤ q ∧ q < 6 ∧ tb x q = true ∧ rid V s p a ∧ rid V s q b ∧ pAp V (V 0 6) a b
def nrs (V : jM) (s x : Int) : Prop := ∃ p c, 0 ≤ p ∧ p < 6 ∧ tb x p = true ∧ rid V s p c ∧ jand (V 14 (V 15 c)) 1 ≠ 0
noncomputable def ldN (V : jM) (s x : Int) (n : Nat) : Int := sumN (fun p => if tb x p = true then stN V s p else 0) n
def sub6 (x y : Int) : Prop := ∀ i, 0 ≤ i → i < 6 → tb x i = true → tb y i = true
def gd (V : jM) (s x : Int) : Prop := sub6 x (srv V s) ∧ bh V s x (-1) ≤ V 9 1 ∧ ldN V s x 6 ≤ V 9 0 ∧ ¬ ptd V s x
noncomputable def py (V : jM) (s x : Int) : Int := V 9 5 + V 9 6 * bh V s x (-1) + @ite _ (nrs V s x) (Classical.propDecidable _) (V 9 4) 0
theorem py_in {V : jM} (hk : vKt V) {s x : Int} (x0 : 0 ≤ x) (x1 : x < 64) (h : gd V s x) : 0 ≤ py V s x ∧ py V s x ≤ 99999999 ∧ 0 ≤ V 9 6 * bh V s x (-1) ∧ V 9 6 * bh V s x (-1) ≤ 99980001 := by
  have r := hk.2.2.2.2
  have a := r 5 (by decide) (by decide)
  have b := r 6 (by decide) (by decide)
  have c := r 4 (by decide) (by decide)
  have d := r 1 (by decide) (by decide)
  have e := bh_in hk s x0 x1 (-1)
  have f := h.2.1
  have g1 : 0 ≤ V 9 6 * bh V s x (-1) := Int.mul_nonneg b.1 e.1
  have g2 : V 9 6 * bh V s x (-1) ≤ 9999 * 9999 := Int.le_trans (Int.mul_le_mul_of_nonneg_right b.2 e.1) (Int.mul_le_mul_of_nonneg_left (by omega) (by decide))
  unfold py
  split <;> omega

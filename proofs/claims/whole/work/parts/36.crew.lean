/-! drivers: the least weight that nobody drives -/
def crK (d : jM) : Prop := 0 ≤ d 139 56 ∧ d 139 56 ≤ 8 ∧ (∀ x, 0 ≤ x → x < d 139 56 → 0 ≤ d 183 x ∧ d 183 x ≤ 1023 ∧ (d 184 x = 0 ∨ d 184 x = 1)) ∧ ∀ r, 0 ≤ r → r < 10 → 0 ≤ d 185 r ∧ d 185 r ≤ 99
def crR (d m : jM) : Prop := m 139 56 = d 139 56 ∧ m 183 = d 183 ∧ m 184 = d 184 ∧ m 185 = d 185
def crC (d m : jM) : Prop := m 127 0 = d 139 56 ∧ (∀ x, 0 ≤ x → x < d 139 56 → m 129 x = d 183 x ∧ m 130 x = d 184 x) ∧ (∀ x, d 139 56 ≤ x → x < 8 → m 130 x = 0) ∧ ∀ r, 0 ≤ r → r < 10 → m 131 r = d 185 r
abbrev crM (d : jM) (x r t : Int) : Prop := d 184 x = 0 ∧ tb (d 183 x) r = true ∧ tb t x = false
def crG (d : jM) (r t : Int) (F : Int → Int) : Nat → Int
  | 0 => F t + d 185 r
  | x + 1 => if crM d x r t then min (crG d r t F x) (F (jor t (jshl 1 x))) else crG d r t F x
def crF (d : jM) (k : Int) : Nat → Int → Int
  | 0 => fun _ => 0
  | j + 1 => fun t => crG d (k - 1 - j) t (crF d k j) (d 139 56).toNat
/-- the least weight from a route on -/
def crL (d : jM) (k r t : Int) : Int := crF d k (k - r).toNat t
def crV (d : jM) (r t : Int) : Prop := 0 ≤ t ∧ t < 2 ^ (d 139 56).toNat ∧ cnt t 8 ≤ r
theorem crL_k (d : jM) (k t : Int) : crL d k k t = 0 := by
  unfold crL
  rw [Int.sub_self]
  rfl
theorem crL_eq {d : jM} {k r t : Int} (h : r < k) : crL d k r t = crG d r t (crL d k (r + 1)) (d 139 56).toNat := by
  unfold crL
  rw [show (k - r).toNat = (k - (r + 1)).toNat + 1 by omega]
  simp only [crF]
  rw [show k - 1 - (((k - (r + 1)).toNat : Nat) : Int) = r by omega]
theorem cr256 {d : jM} (hk : crK d) {t : Int} (h : t < 2 ^ (d 139 56).toNat) : t < 256 := by
  have : (2 : Int) ^ (d 139 56).toNat ≤ 2 ^ 8 := p2le (by have := hk.2.1; omega)
  omega
theorem jor_bit {t x : Int} {n : Nat} (hn : n ≤ 8) (t0 : 0 ≤ t) (t1 : t < 2 ^ n) (x0 : 0 ≤ x) (x1 : x < n) : 0 ≤ jor t (jshl 1 x) ∧ jor t (jshl 1 x) < 2 ^ n := by
  have e3 : (2 : Int) ^ n ≤ 2 ^ 8 := p2le hn
  have hp := jshl1_in x0 (by omega)
  have h2 : jshl 1 x < 2 ^ n := by rw [jshl1 x x0 (by omega)]; exact Int.pow_lt_pow_of_lt (by decide) (by omega)
  exact ⟨jor_nn (by omega) (by omega), jor_lt (k := n) ⟨t0, t1⟩ ⟨by omega, h2⟩ (by omega)⟩
theorem tb_orb {t x i : Int} (t0 : 0 ≤ t) (t1 : t ≤ 2147483647) (x0 : 0 ≤ x) (x1 : x < 31) (i0 : 0 ≤ i) (i1 : i < 32) : tb (jor t (jshl 1 x)) i = (tb t i || decide (i = x)) := by
  have hp := jshl1_in x0 x1
  rw [tb_or (by omega) (by omega) i0 i1, tb_shl1 x0 x1 i0]
theorem cnt_or {t x : Int} {n : Nat} (hn : n ≤ 31) (t0 : 0 ≤ t) (t1 : t ≤ 2147483647) (x0 : 0 ≤ x) (x1 : x < n) (hx : tb t x = false) : cnt (jor t (jshl 1 x)) n = cnt t n + 1 := by
  unfold cnt
  rw [sumN_up (f := fun i => if tb t i = true then 1 else 0) (g := fun i => if tb (jor t (jshl 1 x)) i = true then 1 else 0) n x0 x1 (fun i i0 i1 hi => by
    rw [tb_orb t0 t1 x0 (by omega) i0 (by omega), decide_eq_false hi, Bool.or_false])]
  rw [tb_orb t0 t1 x0 (by omega) x0 (by omega), hx]
  simp
theorem crV_or {d : jM} (hk : crK d) {r t x : Int} (h : crV d r t) (x0 : 0 ≤ x) (x1 : x < d 139 56) (hx : tb t x = false) : crV d (r + 1) (jor t (jshl 1 x)) := by
  have h8 := hk.2.1
  have b := jor_bit (n := (d 139 56).toNat) (by omega) h.1 h.2.1 x0 (by omega)
  have := cr256 hk h.2.1
  refine ⟨b.1, b.2, ?_⟩
  rw [cnt_or (by decide) h.1 (by omega) x0 (by omega) hx]
  have := h.2.2
  omega
theorem crG_bd {d : jM} (hk : crK d) {r t L : Int} {F : Int → Int} (r0 : 0 ≤ r) (r1 : r < 10) (hF : ∀ s, 0 ≤ F s ∧ F s ≤ L) : ∀ x : Nat, 0 ≤ crG d r t F x ∧ crG d r t F x ≤ L + 99 := by
  intro x
  induction x with
  | zero =>
    have := hk.2.2.2 r r0 r1
    have := hF t
    simp only [crG]
    omega
  | succ x ih =>
    simp only [crG]
    split
    · have := hF (jor t (jshl 1 x))
      omega
    · exact ih
theorem crF_bd {d : jM} (hk : crK d) {k : Int} (k1 : k ≤ 10) : ∀ j : Nat, (j : Int) ≤ k → ∀ t, 0 ≤ crF d k j t ∧ crF d k j t ≤ 99 * j := by
  intro j
  induction j with
  | zero => intro _ t; exact ⟨Int.le_refl _, Int.le_refl _⟩
  | succ j ih =>
    intro hj t
    have := crG_bd hk (r := k - 1 - j) (t := t) (F := crF d k j) (L := 99 * j) (by omega) (by omega) (ih (by omega)) (d 139 56).toNat
    simp only [crF]
    omega
theorem crL_bd {d : jM} (hk : crK d) {k r : Int} (k1 : k ≤ 10) (r0 : 0 ≤ r) (r1 : r ≤ k) (t : Int) : 0 ≤ crL d k r t ∧ crL d k r t ≤ 990 := by
  have := crF_bd hk k1 (k - r).toNat (by omega) t
  unfold crL
  omega
theorem c_canDrive {d m : jM} {Q : Int → jM → Prop} {x r t : Int} (hk : crK d) (hc : crC d m) (x0 : 0 ≤ x) (x1 : x < d 139 56) (r0 : 0 ≤ r) (r1 : r < 10) (t0 : 0 ≤ t) (t1 : t < 256) (hQ : ∀ v, (crM d x r t → v = 1) → (¬ crM d x r t → v = 0) → Q v m) : ML iX0_canDrive [(2, 127), (0, x), (0, r), (0, t)] m Q := by
  have h8 := hk.2.1
  have q := hk.2.2.1 x x0 x1
  have e := hc.2.1 x x0 x1
  refine sX0_canDrive ?_
  rw [e.1, e.2, jshr_bit (by omega) r0 (by omega), jshr_bit (by omega) x0 (by omega)]
  refine ⟨x0, by omega, fun c => hQ 0 (fun z => absurd z.1 c) (fun _ => rfl), fun c => ⟨x0, by omega, fun c2 => hQ 0 (fun z => ?_) (fun _ => rfl), fun c2 => ⟨fun c3 => hQ 0 (fun z => ?_) (fun _ => rfl), fun c3 => hQ 1 (fun _ => rfl) (fun z => absurd ⟨Classical.byContradiction c, ?_, ?_⟩ z)⟩⟩⟩
  · rw [z.2.1] at c2; exact absurd c2 (by decide)
  · rw [z.2.2] at c3; exact absurd c3 (by decide)
  · cases h : tb (d 183 x) r with
    | true => rfl
    | false => rw [h] at c2; exact absurd rfl c2
  · cases h : tb t x with
    | false => rfl
    | true => rw [h] at c3; exact absurd (by decide) c3
theorem c_mayDrive {d m : jM} {Q : Int → jM → Prop} {x r t : Int} (hk : crK d) (hr : crR d m) (x0 : 0 ≤ x) (x1 : x < d 139 56) (r0 : 0 ≤ r) (r1 : r < 10) (t0 : 0 ≤ t) (t1 : t < 256) (hQ : ∀ v, (crM d x r t → v = 1) → (¬ crM d x r t → v = 0) → Q v m) : ML iX11_mayDrive [(2, 139), (0, x), (0, r), (0, t)] m Q := by
  have h8 := hk.2.1
  have q := hk.2.2.1 x x0 x1
  refine sX11_mayDrive ?_
  rw [hr.2.1, hr.2.2.1, jshr_bit (by omega) r0 (by omega), jshr_bit (by omega) x0 (by omega)]
  refine ⟨x0, by omega, fun c => hQ 0 (fun z => absurd z.1 c) (fun _ => rfl), fun c => ⟨x0, by omega, fun c2 => hQ 0 (fun z => ?_) (fun _ => rfl), fun c2 => ⟨fun c3 => hQ 0 (fun z => ?_) (fun _ => rfl), fun c3 => hQ 1 (fun _ => rfl) (fun z => absurd ⟨Classical.byContradiction c, ?_, ?_⟩ z)⟩⟩⟩
  · rw [z.2.1] at c2; exact absurd rfl c2
  · rw [z.2.2] at c3; exact absurd c3 (by decide)
  · cases h : tb (d 183 x) r with
    | true => rfl
    | false => rw [h] at c2; exact absurd (by decide) c2
  · cases h : tb t x with
    | false => rfl
    | true => rw [h] at c3; exact absurd (by decide) c3
/-- the class's table, from a route on -/
def crI (d m : jM) (k r : Int) : Prop := ∀ r' t, r ≤ r' → r' ≤ k → crV d r' t → m 132 (256 * r' + t) = crL d k r' t
theorem c_leastFrom {d m : jM} {Q : Int → jM → Prop} {k r t : Int} (hk : crK d) (hc : crC d m) (k1 : k ≤ 10) (r0 : 0 ≤ r) (r1 : r < k) (hI : crI d m k (r + 1)) (hv : crV d r t) (hQ : Q (crL d k r t) m) : ML iX0_leastFrom [(2, 127), (0, r), (0, t)] m Q := by
  have h8 := hk.2.1
  have t256 := cr256 hk hv.2.1
  have hw := hk.2.2.2 r r0 (by omega)
  have v1 : crV d (r + 1) t := ⟨hv.1, hv.2.1, by have := hv.2.2; omega⟩
  have e1 := hI (r + 1) t (Int.le_refl _) (by omega) v1
  have b1 := crL_bd hk k1 (r := r + 1) (by omega) (by omega) t
  have ht0 := hv.1
  refine sX0_leastFrom ?_
  rw [jw_id (x := r + 1) (by omega) (by omega), jw_id (x := (r + 1) * 256) (by omega) (by omega), jw_id (x := (r + 1) * 256 + t) (by omega) (by omega), hc.2.2.2 r r0 (by omega), show (r + 1) * 256 + t = 256 * (r + 1) + t by omega, e1, jw_id (by omega) (by omega)]
  refine ⟨r0, by omega, by omega, by omega, ?_⟩
  refine lup2 (n := d 139 56) (I := fun x (m' : jM) v => 0 ≤ x ∧ x ≤ d 139 56 ∧ m' = m ∧ v = crG d r t (crL d k (r + 1)) x.toNat) (G := fun x m' v => GL iX0_leastFrom m' 28 [(2, 127), (0, r), (0, t), (0, (r + 1) * 256), (0, v), (0, x)] [] Q) ?_ ?_ 0 m _ ⟨by decide, hk.1, rfl, by simp only [crG, Int.toNat_zero]; omega⟩
  · rintro x m' v hx ⟨x0, x1, rfl, rfl⟩ K
    have nx : crG d r t (crL d k (r + 1)) (x + 1).toNat = if crM d x r t then min (crG d r t (crL d k (r + 1)) x.toNat) (crL d k (r + 1) (jor t (jshl 1 x))) else crG d r t (crL d k (r + 1)) x.toNat := by
      rw [show (x + 1).toNat = x.toNat + 1 by omega]
      simp only [crG]
      rw [Int.toNat_of_nonneg x0]
    refine sX0_leastFrom_28 ⟨fun c => absurd c (by rw [hc.1]; omega), fun _ => ?_⟩
    refine c_canDrive hk hc x0 hx r0 (by omega) hv.1 t256 (fun v h1 h0 => ?_)
    rw [jw_id (x := x + 1) (by omega) (by omega)]
    refine ⟨fun c => K _ _ ⟨by omega, by omega, rfl, ?_⟩, fun c => ?_⟩
    · rw [nx, if_neg (fun z => by have := h1 z; omega)]
    · have hM : crM d x r t := Classical.byContradiction (fun z => c (h0 z))
      have vo := crV_or hk v1 x0 hx hM.2.2
      have vo : crV d (r + 1) (jor t (jshl 1 x)) := by
        have b := jor_bit (n := (d 139 56).toNat) (by omega) hv.1 hv.2.1 x0 (by omega)
        exact crV_or hk hv x0 hx hM.2.2
      have e2 := hI (r + 1) _ (Int.le_refl _) (by omega) vo
      have o256 := cr256 hk vo.2.1
      have o0 := vo.1
      rw [jw_id (x := (r + 1) * 256 + jor t (jshl 1 x)) (by omega) (by omega), show (r + 1) * 256 + jor t (jshl 1 x) = 256 * (r + 1) + jor t (jshl 1 x) by omega, e2]
      exact ⟨by omega, by omega, K _ _ ⟨by omega, by omega, rfl, by rw [nx, if_pos hM]⟩⟩
  · rintro x m' v hx ⟨x0, x1, rfl, rfl⟩
    obtain rfl : x = d 139 56 := by omega
    refine sX0_leastFrom_28 ⟨fun _ => ?_, fun c => absurd (by rw [hc.1]; exact Int.le_refl _) c⟩
    rw [← crL_eq r1]
    exact hQ
/-! Integer.bitCount -/
def jb1 (a : Int) : Int := jw (a - jand (jushr a 1) 1431655765)
def jb2 (y : Int) : Int := jw (jand y 858993459 + jand (jushr y 2) 858993459)
def jb3 (z : Int) : Int := jand (jw (z + jushr z 4)) 252645135
def jb4 (w : Int) : Int := jw (w + jushr w 8)
def jb5 (v : Int) : Int := jw (v + jushr v 16)
def jbc (a : Int) : Int := jand (jb5 (jb4 (jb3 (jb2 (jb1 a))))) 63
theorem c_bitCount {m : jM} {Q : Int → jM → Prop} {a : Int} (h : Q (jbc a) m) : ML iJ6_bitCount_0f7a4 [(0, a)] m Q := sJ6_bitCount_0f7a4 h
theorem jbc8 : ∀ t : Fin 256, jbc ((t : Nat) : Int) = cnt ((t : Nat) : Int) 8 := by decide +kernel
theorem jbc_8 {t : Int} (h0 : 0 ≤ t) (h1 : t < 256) : jbc t = cnt t 8 := by
  have := jbc8 ⟨t.toNat, by omega⟩
  simpa [Int.toNat_of_nonneg h0] using this
abbrev crOk (d : jM) (k r t x : Int) : Prop := crM d x r t ∧ crL d k (r + 1) (jor t (jshl 1 x)) = crL d k r t
/-- the least driver of the last n that does it -/
def crW (d : jM) (k r t : Int) : Nat → Int
  | 0 => -1
  | n + 1 => if crOk d k r t (d 139 56 - ((n + 1 : Nat) : Int)) then d 139 56 - ((n + 1 : Nat) : Int) else crW d k r t n
def crWho (d : jM) (k r t : Int) : Int := crW d k r t (d 139 56).toNat
/-- the drivers taken ahead of a route -/
def crT (d : jM) (k : Int) : Nat → Int
  | 0 => 0
  | r + 1 => if crWho d k r (crT d k r) = -1 then crT d k r else jor (crT d k r) (jshl 1 (crWho d k r (crT d k r)))
theorem crW_in {d : jM} {k r t : Int} : ∀ n : Nat, (n : Int) ≤ d 139 56 → crW d k r t n = -1 ∨ (0 ≤ crW d k r t n ∧ crW d k r t n < d 139 56 ∧ crOk d k r t (crW d k r t n)) := by
  intro n
  induction n with
  | zero => intro _; exact Or.inl rfl
  | succ n ih =>
    intro hn
    simp only [crW]
    split
    · rename_i c
      exact Or.inr ⟨by omega, by omega, c⟩
    · exact ih (by omega)
theorem crWho_in {d : jM} (hk : crK d) (k r t : Int) : crWho d k r t = -1 ∨ (0 ≤ crWho d k r t ∧ crWho d k r t < d 139 56 ∧ crOk d k r t (crWho d k r t)) := crW_in _ (by have := hk.1; omega)
theorem crT_V {d : jM} (hk : crK d) (k : Int) : ∀ r : Nat, crV d r (crT d k r) := by
  intro r
  induction r with
  | zero =>
    refine ⟨Int.le_refl _, Int.pow_pos (by decide), ?_⟩
    show cnt 0 8 ≤ 0
    decide
  | succ r ih =>
    simp only [crT]
    rcases crWho_in hk k r (crT d k r) with h | ⟨h0, h1, h2⟩
    · rw [if_pos h]
      exact ⟨ih.1, ih.2.1, by have := ih.2.2; omega⟩
    · rw [if_neg (by omega)]
      have := crV_or hk ih h0 h1 h2.1.2.2
      exact this
theorem c_firstDriver {d m : jM} {Q : Int → jM → Prop} {k r t : Int} (hk : crK d) (hc : crC d m) (k1 : k ≤ 10) (r0 : 0 ≤ r) (r1 : r < k) (hI : crI d m k r) (hv : crV d r t) (hQ : Q (crWho d k r t) m) : ML iX0_firstDriver [(2, 127), (0, r), (0, t)] m Q := by
  have h8 := hk.2.1
  have t256 := cr256 hk hv.2.1
  have t0 := hv.1
  have e1 := hI r t (Int.le_refl _) (by omega) hv
  refine sX0_firstDriver ?_
  refine lup (n := d 139 56) (I := fun x m' => 0 ≤ x ∧ x ≤ d 139 56 ∧ m' = m ∧ crWho d k r t = crW d k r t (d 139 56 - x).toNat) (G := fun x m' => GL iX0_firstDriver m' 2 [(2, 127), (0, r), (0, t), (0, x)] [] Q) ?_ ?_ 0 m ⟨by decide, hk.1, rfl, by rw [Int.sub_zero]; rfl⟩
  · rintro x m' hx ⟨x0, x1, rfl, hw⟩ K
    have nx : crW d k r t (d 139 56 - x).toNat = if crOk d k r t x then x else crW d k r t (d 139 56 - (x + 1)).toNat := by
      rw [show (d 139 56 - x).toNat = (d 139 56 - (x + 1)).toNat + 1 by omega]
      simp only [crW]
      rw [show d 139 56 - (((d 139 56 - (x + 1)).toNat + 1 : Nat) : Int) = x by omega]
    refine sX0_firstDriver_2 ⟨fun c => absurd c (by rw [hc.1]; omega), fun _ => ?_⟩
    refine c_canDrive hk hc x0 hx r0 (by omega) hv.1 t256 (fun v h1 h0 => ?_)
    rw [jw_id (x := x + 1) (by omega) (by omega)]
    refine ⟨fun c => K _ ⟨by omega, by omega, rfl, ?_⟩, fun c => ?_⟩
    · rw [hw, nx, if_neg (fun z => by have := h1 z.1; omega)]
    · have hM : crM d x r t := Classical.byContradiction (fun z => c (h0 z))
      have vo := crV_or hk hv x0 hx hM.2.2
      have e2 := hI (r + 1) _ (by omega) (by omega) vo
      have o256 := cr256 hk vo.2.1
      have o0 := vo.1
      rw [jw_id (x := r + 1) (by omega) (by omega), jw_id (x := (r + 1) * 256) (by omega) (by omega), jw_id (x := (r + 1) * 256 + jor t (jshl 1 x)) (by omega) (by omega), show (r + 1) * 256 + jor t (jshl 1 x) = 256 * (r + 1) + jor t (jshl 1 x) by omega, e2, jw_id (x := r * 256) (by omega) (by omega), jw_id (x := r * 256 + t) (by omega) (by omega), show r * 256 + t = 256 * r + t by omega, e1]
      refine ⟨by omega, by omega, by omega, by omega, fun c2 => K _ ⟨by omega, by omega, rfl, ?_⟩, fun c2 => ?_⟩
      · rw [hw, nx, if_neg (fun z => c2 z.2)]
      · rw [hw, nx, if_pos ⟨hM, Classical.byContradiction c2⟩] at hQ
        exact hQ
  · rintro x m' hx ⟨x0, x1, rfl, hw⟩
    obtain rfl : x = d 139 56 := by omega
    refine sX0_firstDriver_2 ⟨fun _ => ?_, fun c => absurd (by rw [hc.1]; exact Int.le_refl _) c⟩
    rw [hw, Int.sub_self] at hQ
    exact hQ
theorem c_listDrivers {d m : jM} {Q : Int → jM → Prop} {k : Int} (hk : crK d) (hc : crC d m) (k0 : 0 ≤ k) (k1 : k ≤ 10) (hI : crI d m k 0) (hQ : ∀ m', fr [128] m m' → (∀ r, 0 ≤ r → r < k → m' 128 r = crWho d k r (crT d k r.toNat)) → Q 0 m') : ML iX0_listDrivers [(2, 127), (0, k)] m Q := by
  have h8 := hk.2.1
  refine sX0_listDrivers ?_
  refine lup2 (n := k) (I := fun r m1 t => 0 ≤ r ∧ r ≤ k ∧ fr [128] m m1 ∧ t = crT d k r.toNat ∧ ∀ r', 0 ≤ r' → r' < r → m1 128 r' = crWho d k r' (crT d k r'.toNat)) (G := fun r m1 t => GL iX0_listDrivers m1 4 [(2, 127), (0, k), (0, t), (0, r)] [] Q) ?_ ?_ 0 m 0 ⟨by decide, k0, fr_rf, rfl, fun r' h0 h1 => by omega⟩
  · rintro r m1 t hr ⟨r0, r1, hf, rfl, hd⟩ K
    have hc1 : crC d m1 := by
      unfold crC at hc ⊢
      rw [hf 127 (by decide), hf 129 (by decide), hf 130 (by decide), hf 131 (by decide)]
      exact hc
    have hI1 : crI d m1 k r := by
      intro r' t h0 h1 h2
      rw [hf 132 (by decide)]
      exact hI r' t (by omega) h1 h2
    have hv := crT_V hk k r.toNat
    rw [Int.toNat_of_nonneg r0] at hv
    have hw := crWho_in hk k r (crT d k r.toNat)
    have nx : crT d k (r + 1).toNat = if crWho d k r (crT d k r.toNat) = -1 then crT d k r.toNat else jor (crT d k r.toNat) (jshl 1 (crWho d k r (crT d k r.toNat))) := by
      rw [show (r + 1).toNat = r.toNat + 1 by omega]
      simp only [crT]
      rw [Int.toNat_of_nonneg r0]
    refine sX0_listDrivers_4 ⟨fun c => absurd c (by omega), fun _ => ?_⟩
    refine c_firstDriver hk hc1 k1 r0 hr hI1 hv ?_
    rw [jw_id (x := r + 1) (by omega) (by omega)]
    have hd2 : ∀ r', 0 ≤ r' → r' < r + 1 → jup m1 128 r (crWho d k r (crT d k r.toNat)) 128 r' = crWho d k r' (crT d k r'.toNat) := by
      intro r' h0 h1
      rw [jup_self]
      by_cases e : r' = r
      · rw [if_pos e, e]
      · rw [if_neg e]; exact hd r' h0 (by omega)
    exact ⟨r0, by omega, r0, by omega, fun c => K _ _ ⟨by omega, by omega, fr_up hf (by decide), by rw [nx, if_pos c], hd2⟩, fun c => ⟨r0, by omega, K _ _ ⟨by omega, by omega, fr_up hf (by decide), by rw [nx, if_neg c], hd2⟩⟩⟩
  · rintro r m1 t hr ⟨r0, r1, hf, rfl, hd⟩
    obtain rfl : r = k := by omega
    exact sX0_listDrivers_4 ⟨fun _ => hQ m1 hf hd, fun c => absurd (Int.le_refl _) c⟩
/-- what was solved for k routes -/
def crS (d m : jM) (k : Int) : Prop := 1 ≤ k ∧ k ≤ 10 ∧ m 132 0 = crL d k 0 0 ∧ ∀ r, 0 ≤ r → r < k → m 128 r = crWho d k r (crT d k r.toNat)
theorem c_solveC {d m : jM} {Q : Int → jM → Prop} {k : Int} (hk : crK d) (hc : crC d m) (hs : m 127 6 = 0 ∨ crS d m (m 127 6)) (k0 : 1 ≤ k) (k1 : k ≤ 10) (hQ : ∀ m', frx [128, 132] [(127, 6)] m m' → m' 127 6 = k → crS d m' k → Q 0 m') : ML iX0_solve [(2, 127), (0, k)] m Q := by
  have h8 := hk.2.1
  have h80 := hk.1
  have hp2 : (2 : Int) ^ (d 139 56).toNat ≤ 2 ^ 8 := p2le (by omega)
  have hp0 : 0 < (2 : Int) ^ (d 139 56).toNat := Int.pow_pos (by decide)
  refine sX0_solve ⟨fun c => ?_, fun c => ?_⟩
  · rw [hc.1, jshl1 _ h80 (by omega)]
    have ok : ∀ m1, frx [128, 132] [(127, 6)] m m1 → crC d m1 := by
      intro m1 hf
      have a0 := hf 127 0 (by decide) (by decide)
      have a1 := frx_row hf 129 (by decide) (by decide)
      have a2 := frx_row hf 130 (by decide) (by decide)
      have a3 := frx_row hf 131 (by decide) (by decide)
      unfold crC at hc ⊢
      rw [a0, a1, a2, a3]
      exact hc
    refine lup (n := 2 ^ (d 139 56).toNat) (I := fun t m1 => 0 ≤ t ∧ frx [128, 132] [(127, 6)] m m1 ∧ m1 127 6 = k ∧ ∀ t', 0 ≤ t' → t' < t → m1 132 (256 * k + t') = 0) (G := fun t m1 => GL iX0_solve m1 23 [(2, 127), (0, k), (0, 2 ^ (d 139 56).toNat), (0, t), (9, 0)] [] Q) ?_ ?_ 0 _ ⟨by decide, frx_upF frx_rf (by decide), by rw [jup_self, if_pos rfl], fun t' h0 h1 => by omega⟩
    · rintro t m1 ht ⟨t0, hf, h6, hz⟩ K
      refine sX0_solve_23 ⟨fun c => absurd c (by omega), fun _ => ?_⟩
      rw [jw_id (x := k * 256) (by omega) (by omega), jw_id (x := k * 256 + t) (by omega) (by omega), jw_id (x := t + 1) (by omega) (by omega)]
      refine ⟨by omega, by omega, K _ ⟨by omega, frx_upA hf (by decide), by rw [jup_ne (by decide)]; exact h6, fun t' h0 h1 => ?_⟩⟩
      rw [jup_self]
      by_cases e : t' = t
      · rw [if_pos (by omega)]
      · rw [if_neg (by omega)]; exact hz t' h0 (by omega)
    · rintro t m1 ht ⟨t0, hf, h6, hz⟩
      refine sX0_solve_23 ⟨fun _ => ?_, fun c => absurd ht c⟩
      rw [jw_id (x := k - 1) (by omega) (by omega)]
      refine ldn (I := fun r m2 => -1 ≤ r ∧ r < k ∧ frx [128, 132] [(127, 6)] m m2 ∧ m2 127 6 = k ∧ crI d m2 k (r + 1)) (G := fun r m2 => GL iX0_solve m2 51 [(2, 127), (0, k), (0, 2 ^ (d 139 56).toNat), (0, r), (9, 0)] [] Q) ?_ ?_ (k - 1) m1 ⟨by omega, by omega, hf, h6, fun r' t' h0 h1 h2 => ?_⟩
      · rintro r m2 r0 ⟨-, r1, hf2, h62, hI⟩ K2
        refine sX0_solve_51 ⟨fun c => absurd c (by omega), fun _ => ?_⟩
        refine lup (n := 2 ^ (d 139 56).toNat) (I := fun t m3 => 0 ≤ t ∧ frx [128, 132] [(127, 6)] m m3 ∧ m3 127 6 = k ∧ crI d m3 k (r + 1) ∧ ∀ t', t' < t → crV d r t' → m3 132 (256 * r + t') = crL d k r t') (G := fun t m3 => GL iX0_solve m3 58 [(2, 127), (0, k), (0, 2 ^ (d 139 56).toNat), (0, r), (0, t)] [] Q) ?_ ?_ 0 m2 ⟨by decide, hf2, h62, hI, fun t' h0 h1 => absurd h1.1 (by omega)⟩
        · rintro t m3 ht3 ⟨t30, hf3, h63, hI3, hz3⟩ K3
          refine sX0_solve_58 ⟨fun c => absurd c (by omega), fun _ => c_bitCount ?_⟩
          rw [jbc_8 t30 (by omega), jw_id (x := t + 1) (by omega) (by omega), jw_id (x := r * 256) (by omega) (by omega), jw_id (x := r * 256 + t) (by omega) (by omega)]
          refine ⟨fun c => K3 m3 ⟨by omega, hf3, h63, hI3, fun t' h0 h1 => ?_⟩, fun c => ?_⟩
          · by_cases e : t' = t
            · rw [e] at h1
              exact absurd h1.2.2 (by omega)
            · exact hz3 t' (by omega) h1
          · have hv : crV d r t := ⟨t30, ht3, by omega⟩
            refine c_leastFrom hk (ok m3 hf3) k1 r0 r1 hI3 hv ⟨by omega, by omega, K3 _ ⟨by omega, frx_upA hf3 (by decide), by rw [jup_ne (by decide)]; exact h63, fun r' t' h0 h1 h2 => ?_, fun t' h0 h1 => ?_⟩⟩
            · have := cr256 hk h2.2.1
              have := h2.1
              rw [jup_self, if_neg (by omega)]
              exact hI3 r' t' h0 h1 h2
            · rw [jup_self]
              by_cases e : t' = t
              · rw [if_pos (by omega), e]
              · rw [if_neg (by omega)]
                exact hz3 t' (by omega) h1
        · rintro t m3 ht3 ⟨t30, hf3, h63, hI3, hz3⟩
          refine sX0_solve_58 ⟨fun _ => ?_, fun c => absurd ht3 c⟩
          rw [jw_id (x := r + -1) (by omega) (by omega)]
          refine K2 m3 ⟨by omega, by omega, hf3, h63, fun r' t' h0 h1 h2 => ?_⟩
          by_cases e : r' = r
          · rw [e] at h2 ⊢
            exact hz3 t' (by have := h2.2.1; omega) h2
          · exact hI3 r' t' (by omega) h1 h2
      · rintro r m2 r0 ⟨r00, r1, hf2, h62, hI⟩
        obtain rfl : r = -1 := by omega
        refine sX0_solve_51 ⟨fun _ => ?_, fun c => absurd (by decide) c⟩
        refine c_listDrivers hk (ok m2 hf2) (by omega) k1 hI (fun m3 hf3 hd3 => ?_)
        refine hQ m3 (frx_tr hf2 (frx_mono (frx_fr (K := []) hf3) (by decide) (by decide))) (by rw [hf3 127 (by decide)]; exact h62) ⟨k0, k1, ?_, hd3⟩
        rw [hf3 132 (by decide)]
        exact hI 0 0 (by decide) (by omega) ⟨by decide, hp0, by decide⟩
      · obtain rfl : r' = k := by omega
        rw [crL_k]
        exact hz t' h2.1 (by have := h2.2.1; omega)
  · have e : k = m 127 6 := Classical.byContradiction c
    refine hQ m frx_rf e.symm ?_
    rcases hs with h | h
    · omega
    · rw [e]; exact h

/-! a view's text; the reference's lay -/
def vKt (V : jM) : Prop := (0 ≤ V 0 0 ∧ V 0 0 ≤ 12 ∧ 0 ≤ V 0 1 ∧ V 0 1 ≤ 24 ∧ 0 ≤ V 0 2 ∧ V 0 2 ≤ 3 ∧ 0 ≤ V 0 3 ∧ V 0 3 ≤ 6 ∧ 0 ≤ V 0 4 ∧ V 0 4 ≤ 8) ∧ (∀ i, 0 ≤ i → i < V 0 1 → 0 ≤ V 1 i ∧ V 1 i < V 0 0 ∧ 0 ≤ V 2 i ∧ V 2 i < V 0 0 ∧ 1 ≤ V 3 i ∧ V 3 i ≤ 9999 ∧ 1 ≤ V 4 i ∧ V 4 i ≤ 99 ∧ (V 5 i = 0 ∨ V 5 i = 1)) ∧ (∀ i, 0 ≤ i → i < V 0 2 → 0 ≤ V 6 i ∧ V 6 i < V 0 0 ∧ 0 ≤ V 7 i ∧ V 7 i ≤ 1439) ∧ (∀ i, 0 ≤ i → i < V 0 3 → 0 ≤ V 8 i ∧ V 8 i < V 0 0) ∧ ∀ i, 0 ≤ i → i < 7 → 0 ≤ V 9 i ∧ V 9 i ≤ 9999
/-- the reference's k-th text holds the view's -/
def vRt (V : jM) (k : Int) (m : jM) : Prop := (0 ≤ k ∧ k < 3 ∧ m 147 k = V 0 0 ∧ m 148 k = V 0 1 ∧ m 154 k = V 0 2 ∧ m 157 k = V 0 3 ∧ m 159 k = V 0 4) ∧ (∀ i, 0 ≤ i → i < 24 → m 149 (24 * k + i) = V 1 i ∧ m 150 (24 * k + i) = V 2 i ∧ m 151 (24 * k + i) = V 3 i ∧ m 152 (24 * k + i) = V 4 i ∧ m 153 (24 * k + i) = V 5 i) ∧ (∀ i, 0 ≤ i → i < 3 → m 155 (3 * k + i) = V 6 i ∧ m 156 (3 * k + i) = V 7 i) ∧ (∀ i, 0 ≤ i → i < 6 → m 158 (6 * k + i) = V 8 i) ∧ ∀ i, 0 ≤ i → i < 7 → m 146 (7 * k + i) = V 9 i
theorem vRt_fr {V m m' : jM} {k : Int} (h : vRt V k m) (hf : ∀ p, p ∈ [147, 148, 154, 157, 159, 149, 150, 151, 152, 153, 155, 156, 158, 146] → m' p = m p) : vRt V k m' := by
  unfold vRt at *
  rw [hf 147 (by decide), hf 148 (by decide), hf 154 (by decide), hf 157 (by decide), hf 159 (by decide), hf 149 (by decide), hf 150 (by decide), hf 151 (by decide), hf 152 (by decide), hf 153 (by decide), hf 155 (by decide), hf 156 (by decide), hf 158 (by decide), hf 146 (by decide)]
  exact h
theorem vRf_fr {V m m' : jM} (h : vRf V m) (h1 : m' 139 44 = m 139 44) (h2 : m' 139 50 = m 139 50) (hf : ∀ p, p ∈ [174, 175, 176, 177, 178, 179] → m' p = m p) : vRf V m' := by
  unfold vRf at *
  rw [h1, h2, hf 174 (by decide), hf 175 (by decide), hf 176 (by decide), hf 177 (by decide), hf 178 (by decide), hf 179 (by decide)]
  exact h
/-- a way is shut by one of the first j facts -/
def vShutN (V : jM) (j w : Int) : Prop := ∃ f, 0 ≤ f ∧ f < j ∧ V 10 f = 3 ∧ V 12 f ≤ V 0 5 ∧ V 0 5 ≤ V 13 f ∧ vLv V f ∧ V 11 f = w
def vShut (V : jM) (w : Int) : Prop := vShutN V (V 0 6) w
def vOpen (V : jM) (what w : Int) : Prop := ¬ vShut V w ∧ (what = 1 → V 5 w = 0)
def vLen (V : jM) (what i : Int) : Int := if what = 2 then V 4 i else V 3 i
def vE (V : jM) (what : Int) : jG := fun x y l => ∃ i, 0 ≤ i ∧ i < V 0 1 ∧ vOpen V what i ∧ ((V 1 i = x ∧ V 2 i = y) ∨ (V 2 i = x ∧ V 1 i = y)) ∧ l = vLen V what i
def vN (V : jM) : Nat := (V 0 0).toNat
/-- the least sum: 0 FAR, 1 SAFE, 2 MINUTES; -1 without -/
noncomputable def vD (V : jM) (what a b : Int) : Int := dst (vN V) (vE V what) a b
theorem vN_e {V : jM} (h : vKt V) : ((vN V : Nat) : Int) = V 0 0 := by have := h.1; unfold vN; omega
theorem vLen_bd {V : jM} (h : vKt V) {what i : Int} (i0 : 0 ≤ i) (i1 : i < V 0 1) : 1 ≤ vLen V what i ∧ vLen V what i ≤ 9999 ∧ (what = 2 → vLen V what i ≤ 99) := by
  have := h.2.1 i i0 i1
  unfold vLen
  split <;> omega
theorem vE_ok {V : jM} (h : vKt V) (what : Int) : gOK (vN V) (vE V what) := by
  rintro x y l ⟨i, i0, i1, -, hxy, rfl⟩
  have := h.2.1 i i0 i1
  have := vLen_bd h (what := what) i0 i1
  rw [vN_e h]
  omega
theorem vE_sym {V : jM} (what : Int) : ∀ x y l, vE V what x y l → vE V what y x l := by
  rintro x y l ⟨i, i0, i1, ho, hxy, e⟩
  refine ⟨i, i0, i1, ho, ?_, e⟩
  rcases hxy with ⟨a, b⟩ | ⟨a, b⟩
  · exact Or.inr ⟨b, a⟩
  · exact Or.inl ⟨b, a⟩
theorem vD_sym {V : jM} (h : vKt V) (what a b : Int) : vD V what a b = vD V what b a := dst_sym (vE_ok h what) (vE_sym what) a b
theorem vD_ge {V : jM} (h : vKt V) (what a b : Int) : -1 ≤ vD V what a b := dst_ge (vE_ok h what) a b
theorem vD_out {V : jM} (h : vKt V) {what a b : Int} (q : ¬ (0 ≤ a ∧ a < V 0 0 ∧ 0 ≤ b ∧ b < V 0 0)) : vD V what a b = -1 := dst_out (vE_ok h what) (by rw [vN_e h]; exact q)
theorem vD_self {V : jM} (h : vKt V) {what a : Int} (h0 : 0 ≤ a) (h1 : a < V 0 0) : vD V what a a = 0 := dst_self (vE_ok h what) h0 (by rw [vN_e h]; exact h1)
theorem vD_le {V : jM} (h : vKt V) (what a b : Int) : vD V what a b ≤ 109989 ∧ (what = 2 → vD V what a b ≤ 1089) := by
  have h0 := h.1
  by_cases hz : V 0 0 = 0
  · rw [vD_out h (by omega)]
    omega
  · have hN : 0 < vN V := by unfold vN; omega
    have hN2 : vN V ≤ 12 := by unfold vN; omega
    have b1 := dst_bd (vE_ok h what) (L := 9999) (by rintro x y l ⟨i, i0, i1, -, -, rfl⟩; exact (vLen_bd h i0 i1).2.1) a b hN (by decide)
    have c1 : ((vN V : Int) - 1) * 9999 ≤ 11 * 9999 := Int.mul_le_mul_of_nonneg_right (by omega) (by decide)
    refine ⟨by unfold vD; omega, fun e => ?_⟩
    have b2 := dst_bd (vE_ok h what) (L := 99) (by rintro x y l ⟨i, i0, i1, -, -, rfl⟩; exact (vLen_bd h i0 i1).2.2 e) a b hN (by decide)
    have c2 : ((vN V : Int) - 1) * 99 ≤ 11 * 99 := Int.mul_le_mul_of_nonneg_right (by omega) (by decide)
    unfold vD
    omega
/-- the text in force on a day -/
def frcL (d : jM) (day : Int) : Nat → Int
  | 0 => -1
  | j + 1 => if d 145 j ≤ day then (j : Int) else frcL d day j
def frc (d : jM) (day : Int) : Int := if 0 ≤ day ∧ day < 365 then frcL d day (d 139 12).toNat else -1
theorem frcL_in (d : jM) (day : Int) : ∀ j : Nat, frcL d day j = -1 ∨ (0 ≤ frcL d day j ∧ frcL d day j < j) := by
  intro j
  induction j with
  | zero => exact Or.inl rfl
  | succ j ih =>
    simp only [frcL]
    split
    · omega
    · omega
theorem frc_in {d : jM} (h : 0 ≤ d 139 12) (day : Int) : frc d day = -1 ∨ (0 ≤ frc d day ∧ frc d day < d 139 12 ∧ 0 ≤ day ∧ day < 365) := by
  have := frcL_in d day (d 139 12).toNat
  unfold frc
  split <;> omega
theorem c_force {m : jM} {Q : Int → jM → Prop} {day : Int} (h0 : 0 ≤ m 139 12) (h3 : m 139 12 ≤ 3) (hQ : Q (frc m day) m) : ML iX11_force [(2, 139), (0, day)] m Q := by
  unfold frc at hQ
  refine sX11_force (sX11_isIn ⟨fun c => ⟨fun z => absurd rfl z, fun _ => ?_⟩, fun c1 => ⟨fun c => ⟨fun z => absurd rfl z, fun _ => ?_⟩, fun c2 => ⟨fun _ => ?_, fun z => absurd (by decide) z⟩⟩⟩)
  · rw [if_neg (by omega)] at hQ; exact hQ
  · rw [if_neg (by omega)] at hQ; exact hQ
  · rw [if_pos (by omega)] at hQ
    rw [jw_id (by omega) (by omega)]
    refine ldn (I := fun j (m' : jM) => -1 ≤ j ∧ j < m 139 12 ∧ m' = m ∧ frcL m day (m 139 12).toNat = frcL m day (j + 1).toNat) (G := fun j m' => GL iX11_force m' 20 [(2, 139), (0, day), (0, j)] [] Q) ?_ ?_ (m 139 12 - 1) m ⟨by omega, by omega, rfl, by rw [show m 139 12 - 1 + 1 = m 139 12 by omega]⟩
    · rintro j m' j0 ⟨-, j1, rfl, e⟩ K
      have nx : frcL m' day (j + 1).toNat = if m' 145 j ≤ day then j else frcL m' day (j - 1 + 1).toNat := by
        rw [show (j + 1).toNat = (j - 1 + 1).toNat + 1 by omega]
        simp only [frcL]
        rw [show (((j - 1 + 1).toNat : Nat) : Int) = j by omega]
      refine sX11_force_20 ⟨fun c => absurd c (by omega), fun _ => ⟨j0, by omega, fun c => ?_, fun c => ?_⟩⟩
      · rw [jw_id (by omega) (by omega), show j + -1 = j - 1 by omega]
        exact K _ ⟨by omega, by omega, rfl, by rw [e, nx, if_neg (by omega)]⟩
      · rw [e, nx, if_pos (by omega)] at hQ
        exact hQ
    · rintro j m' j0 ⟨j00, j1, rfl, e⟩
      obtain rfl : j = -1 := by omega
      refine sX11_force_20 ⟨fun _ => ?_, fun c => absurd (by decide) c⟩
      rw [e] at hQ
      exact hQ
theorem c_inForce {m : jM} {Q : Int → jM → Prop} {day : Int} (h0 : 0 ≤ m 139 12) (h3 : m 139 12 ≤ 3) (e0 : m 0 10 = m 139 12) (eh : ∀ j, 0 ≤ j → j < m 139 12 → m (27 + 12 * j) 0 = m 145 j) (hQ : Q (frc m day) m) : ML iX10_inForce [(2, 0), (0, day)] m Q := by
  unfold frc at hQ
  refine sX10_inForce (sX10_isDay (sX10_within ⟨fun c => ⟨Or.inl rfl, fun z => absurd rfl z, fun _ => ?_⟩, fun c1 => ⟨fun c => ⟨Or.inl rfl, fun z => absurd rfl z, fun _ => ?_⟩, fun c2 => ⟨Or.inr rfl, fun _ => ?_, fun z => absurd (by decide) z⟩⟩⟩))
  · rw [if_neg (by omega)] at hQ; exact hQ
  · rw [if_neg (by omega)] at hQ; exact hQ
  · rw [if_pos (by omega)] at hQ
    rw [e0, jw_id (by omega) (by omega)]
    refine ldn (I := fun j (m' : jM) => -1 ≤ j ∧ j < m 139 12 ∧ m' = m ∧ frcL m day (m 139 12).toNat = frcL m day (j + 1).toNat) (G := fun j m' => GL iX10_inForce m' 16 [(2, 0), (0, day), (0, j)] [] Q) ?_ ?_ (m 139 12 - 1) m ⟨by omega, by omega, rfl, by rw [show m 139 12 - 1 + 1 = m 139 12 by omega]⟩
    · rintro j m' j0 ⟨-, j1, rfl, e⟩ K
      have nx : frcL m' day (j + 1).toNat = if m' 145 j ≤ day then j else frcL m' day (j - 1 + 1).toNat := by
        rw [show (j + 1).toNat = (j - 1 + 1).toNat + 1 by omega]
        simp only [frcL]
        rw [show (((j - 1 + 1).toNat : Nat) : Int) = j by omega]
      refine sX10_inForce_16 ⟨fun c => absurd c (by omega), fun _ => ⟨j0, by omega, fun c => ?_, fun c => ?_⟩⟩
      · rw [eh j j0 j1] at c
        rw [jw_id (by omega) (by omega), show j + -1 = j - 1 by omega]
        exact K _ ⟨by omega, by omega, rfl, by rw [e, nx, if_neg (by omega)]⟩
      · rw [eh j j0 j1] at c
        rw [e, nx, if_pos (by omega)] at hQ
        exact hQ
    · rintro j m' j0 ⟨j00, j1, rfl, e⟩
      obtain rfl : j = -1 := by omega
      refine sX10_inForce_16 ⟨fun _ => ?_, fun c => absurd (by decide) c⟩
      rw [e] at hQ
      exact hQ
/-- one cell of the table of least sums -/
abbrev lx (what a b : Int) : Int := 144 * what + 12 * a + b
theorem c_join {m : jM} {Q : Int → jM → Prop} {what a b v : Int} (w0 : 0 ≤ what) (w1 : what < 3) (a0 : 0 ≤ a) (a1 : a < 12) (b0 : 0 ≤ b) (b1 : b < 12) (hQ : Q 0 (if m 191 (lx what a b) < 0 ∨ v < m 191 (lx what a b) then jup m 191 (lx what a b) v else m)) : ML iX11_join [(2, 139), (0, what), (0, a), (0, b), (0, v)] m Q := by
  unfold lx at hQ
  refine sX11_join ?_
  rw [jw_id (x := 144 * what) (by omega) (by omega), jw_id (x := 12 * a) (by omega) (by omega), jw_id (x := 144 * what + 12 * a) (by omega) (by omega), jw_id (x := 144 * what + 12 * a + b) (by omega) (by omega)]
  refine ⟨by omega, by omega, fun c => ⟨by omega, by omega, ?_⟩, fun c => ⟨by omega, by omega, fun c2 => ?_, fun c2 => ⟨by omega, by omega, ?_⟩⟩⟩
  · rw [if_pos (Or.inl c)] at hQ; exact hQ
  · rw [if_neg (fun z => z.elim c (fun z => by omega))] at hQ; exact hQ
  · rw [if_pos (Or.inr (by omega))] at hQ; exact hQ
theorem c_leastOf {m : jM} {Q : Int → jM → Prop} {what a b : Int} (w0 : 0 ≤ what) (w1 : what < 3) (a0 : 0 ≤ a) (a1 : a < 12) (b0 : 0 ≤ b) (b1 : b < 12) (hQ : Q (m 191 (lx what a b)) m) : ML iX11_leastOf [(2, 139), (0, what), (0, a), (0, b)] m Q := by
  refine sX11_leastOf ?_
  rw [jw_id (x := 144 * what) (by omega) (by omega), jw_id (x := 12 * a) (by omega) (by omega), jw_id (x := 144 * what + 12 * a) (by omega) (by omega), jw_id (x := 144 * what + 12 * a + b) (by omega) (by omega)]
  exact ⟨by omega, by omega, hQ⟩
def vShR (V m : jM) : Prop := ∀ w, 0 ≤ w → w < 24 → (m 190 w = 0 ∨ m 190 w = 1) ∧ (m 190 w = 0 ↔ ¬ vShut V w)
theorem c_isOpen {V m : jM} {Q : Int → jM → Prop} {k what w : Int} (hr : vRt V k m) (hk : m 139 69 = k) (hs : vShR V m) (w0 : 0 ≤ w) (w1 : w < 24) (hQ : ∀ r, (vOpen V what w → r = 1) → (¬ vOpen V what w → r = 0) → Q r m) : ML iX11_isOpen [(2, 139), (0, w), (0, what)] m Q := by
  have q := hr.2.1 w w0 w1
  have k0 := hr.1
  have s := hs w w0 w1
  refine sX11_isOpen ?_
  rw [hk, jw_id (x := 24 * k) (by omega) (by omega), jw_id (x := 24 * k + w) (by omega) (by omega), q.2.2.2.2]
  refine ⟨w0, w1, fun c => hQ 0 (fun z => absurd (s.2.mpr z.1) c) (fun _ => rfl), fun c => ⟨fun c2 => hQ 1 (fun _ => rfl) (fun z => absurd ⟨s.2.mp (Classical.byContradiction c), fun e => absurd e c2⟩ z), fun c2 => ⟨by omega, by omega, fun c3 => hQ 0 (fun z => absurd (z.2 (Classical.byContradiction c2)) c3) (fun _ => rfl), fun c3 => hQ 1 (fun _ => rfl) (fun z => absurd ⟨s.2.mp (Classical.byContradiction c), fun _ => Classical.byContradiction c3⟩ z)⟩⟩⟩
theorem c_weightOf {V m : jM} {Q : Int → jM → Prop} {k what w : Int} (hr : vRt V k m) (hk : m 139 69 = k) (w0 : 0 ≤ w) (w1 : w < 24) (hQ : Q (vLen V what w) m) : ML iX11_weightOf [(2, 139), (0, w), (0, what)] m Q := by
  have q := hr.2.1 w w0 w1
  have k0 := hr.1
  refine sX11_weightOf ?_
  rw [hk, jw_id (x := 24 * k) (by omega) (by omega), jw_id (x := 24 * k + w) (by omega) (by omega), q.2.2.1, q.2.2.2.1]
  unfold vLen at hQ
  refine ⟨fun c => ⟨by omega, by omega, ?_⟩, fun c => ⟨by omega, by omega, ?_⟩⟩
  · rw [if_neg c] at hQ; exact hQ
  · rw [if_pos (Classical.byContradiction c)] at hQ; exact hQ

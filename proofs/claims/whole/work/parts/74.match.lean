/-! matchings: who can be done behind whom -/
/-- M: by y the one ahead of it, or -1 -/
def mtch (T : Int) (R : Int → Int → Prop) (M : Int → Int) : Prop := (∀ y, 0 ≤ y → y < T → M y = -1 ∨ (0 ≤ M y ∧ M y < T ∧ R (M y) y)) ∧ ∀ y y', 0 ≤ y → y < T → 0 ≤ y' → y' < T → M y ≠ -1 → M y = M y' → y = y'
def cvr (T : Int) (M : Int → Int) (x : Int) : Prop := ∃ y, 0 ≤ y ∧ y < T ∧ M y = x
/-- all of X can be covered -/
def cov (T : Int) (R : Int → Int → Prop) (X : Int → Prop) : Prop := ∃ M, mtch T R M ∧ ∀ x, X x → cvr T M x
def itF (f : Int → Int) (x : Int) : Nat → Int
  | 0 => x
  | n + 1 => f (itF f x n)
theorem no_chain {T : Nat} {x : Int} {L : Int → Prop} {f : Int → Int} (hx : L x) (hL : ∀ l, L l → 0 ≤ l ∧ l < T) (hf : ∀ l, L l → L (f l) ∧ f l ≠ x) (hi : ∀ l l', L l → L l' → f l = f l' → l = l') : False := by
  have gL : ∀ n, L (itF f x n) := by
    intro n
    induction n with
    | zero => exact hx
    | succ n ih => exact (hf _ ih).1
  generalize hg : itF f x = G at gL
  have g0 : G 0 = x := by rw [← hg]; rfl
  have gs : ∀ n, G (n + 1) = f (G n) := by intro n; rw [← hg]; rfl
  obtain ⟨i, j, hij, hj, e⟩ := pigeon T G (fun i _ => hL _ (gL i))
  have down : ∀ i d : Nat, G i = G (i + d) → G 0 = G d := by
    intro i
    induction i with
    | zero => intro d h; rwa [Nat.zero_add] at h
    | succ i ih =>
      intro d h
      rw [show i + 1 + d = i + d + 1 by omega, gs, gs] at h
      exact ih d (hi _ _ (gL _) (gL _) h)
  have := down i (j - i) (by rw [show i + (j - i) = j by omega]; exact e)
  rw [g0, show j - i = (j - i - 1) + 1 by omega, gs] at this
  exact (hf _ (gL _)).2 this.symm
/-- where the search fails, not all can be covered -/
theorem hall {T : Nat} {R : Int → Int → Prop} {M : Int → Int} {X L : Int → Prop} {x : Int} (hM : mtch T R M) (hx : L x) (hL : ∀ l, L l → 0 ≤ l ∧ l < T ∧ (l = x ∨ X l)) (hN : ∀ l y : Int, L l → 0 ≤ y → y < (T : Int) → R l y → M y ≠ -1 ∧ L (M y) ∧ M y ≠ x) : ¬ cov T R (fun z => X z ∨ z = x) := by
  rintro ⟨M', hM', hc⟩
  have pick : ∀ l, ∃ y : Int, L l → 0 ≤ y ∧ y < (T : Int) ∧ M' y = l := by
    intro l
    by_cases h : L l
    · obtain ⟨y, y0, y1, e⟩ := hc l (by rcases (hL l h).2.2 with z | z; exact Or.inr z; exact Or.inl z)
      exact ⟨y, fun _ => ⟨y0, y1, e⟩⟩
    · exact ⟨0, fun z => absurd z h⟩
  have Y : ∃ Y : Int → Int, ∀ l, L l → 0 ≤ Y l ∧ Y l < T ∧ M' (Y l) = l := ⟨fun l => Classical.choose (pick l), fun l hl => Classical.choose_spec (pick l) hl⟩
  obtain ⟨Y, hY⟩ := Y
  have hR : ∀ l, L l → R l (Y l) := by
    intro l hl
    have q := hY l hl
    have := hL l hl
    rcases hM'.1 (Y l) q.1 q.2.1 with z | z
    · omega
    · rw [q.2.2] at z
      exact z.2.2
  refine no_chain (T := T) (x := x) (L := L) (f := fun l => M (Y l)) hx (fun l hl => ⟨(hL l hl).1, (hL l hl).2.1⟩) (fun l hl => ?_) (fun l l' hl hl' e => ?_)
  · have q := hY l hl
    have := hN l (Y l) hl q.1 q.2.1 (hR l hl)
    exact ⟨this.2.1, this.2.2⟩
  · have q := hY l hl
    have q' := hY l' hl'
    have := hN l (Y l) hl q.1 q.2.1 (hR l hl)
    have e2 := hM.2 (Y l) (Y l') q.1 q.2.1 q'.1 q'.2.1 this.1 e
    rw [← q.2.2, ← q'.2.2, e2]
/-- the first k: who gets one behind; how many -/
def grX (T : Int) (R : Int → Int → Prop) : Nat → Int → Prop
  | 0 => fun _ => False
  | k + 1 => fun x => grX T R k x ∨ (x = k ∧ cov T R (fun z => grX T R k z ∨ z = k))
noncomputable def grC (T : Int) (R : Int → Int → Prop) : Nat → Int
  | 0 => 0
  | k + 1 => grC T R k + @ite _ (cov T R (fun z => grX T R k z ∨ z = (k : Int))) (Classical.propDecidable _) 1 0
theorem grX_lt {T : Int} {R : Int → Int → Prop} : ∀ (k : Nat) (x : Int), grX T R k x → 0 ≤ x ∧ x < k := by
  intro k
  induction k with
  | zero => intro x h; exact h.elim
  | succ k ih =>
    intro x h
    rcases h with h | h
    · have := ih x h; omega
    · omega
theorem grC_in {T : Int} {R : Int → Int → Prop} : ∀ k : Nat, 0 ≤ grC T R k ∧ grC T R k ≤ k := by
  intro k
  induction k with
  | zero => exact ⟨Int.le_refl _, Int.le_refl _⟩
  | succ k ih =>
    simp only [grC]
    split <;> omega
/-- the fewest buses -/
noncomputable def nbR (T : Nat) (R : Int → Int → Prop) : Int := T - grC T R T
theorem grC_full {T : Int} {R : Int → Int → Prop} : ∀ k : Nat, grC T R k = k → ∀ x : Int, 0 ≤ x → x < k → grX T R k x := by
  intro k
  induction k with
  | zero => intro _ x x0 x1; omega
  | succ k ih =>
    intro h x x0 x1
    have b := grC_in (T := T) (R := R) k
    simp only [grC] at h
    split at h
    · rename_i q
      by_cases e : x = k
      · exact Or.inr ⟨e, q⟩
      · exact Or.inl (ih (by omega) x x0 (by omega))
    · omega
theorem grX_cov {T : Nat} {R : Int → Int → Prop} : ∀ k : Nat, cov T R (grX T R k) := by
  intro k
  induction k with
  | zero => exact ⟨fun _ => -1, ⟨fun y _ _ => Or.inl rfl, fun y y' _ _ _ _ h => absurd rfl h⟩, fun x h => h.elim⟩
  | succ k ih =>
    by_cases q : cov T R (fun z => grX T R k z ∨ z = (k : Int))
    · obtain ⟨M, h1, h2⟩ := q
      refine ⟨M, h1, fun x hx => h2 x ?_⟩
      rcases hx with z | z
      · exact Or.inl z
      · exact Or.inr z.1
    · obtain ⟨M, h1, h2⟩ := ih
      refine ⟨M, h1, fun x hx => h2 x ?_⟩
      rcases hx with z | z
      · exact z
      · exact absurd z.2 q
/-- one has none behind it -/
theorem nbR_pos {T : Nat} {R : Int → Int → Prop} {b : Int → Int} (h0 : 0 < T) (hR : ∀ x y : Int, 0 ≤ x → x < (T : Int) → 0 ≤ y → y < (T : Int) → R x y → b x < b y ∨ (b x = b y ∧ x < y)) : 1 ≤ nbR T R ∧ nbR T R ≤ T := by
  have bd := grC_in (T := T) (R := R) T
  unfold nbR
  refine ⟨?_, by omega⟩
  apply Classical.byContradiction
  intro hn
  have full := grC_full (T := T) (R := R) T (by omega)
  obtain ⟨M, hM, hc⟩ := grX_cov (T := T) (R := R) T
  have pick : ∀ x : Int, ∃ y : Int, 0 ≤ x → x < (T : Int) → 0 ≤ y ∧ y < (T : Int) ∧ M y = x := by
    intro x
    by_cases h : 0 ≤ x ∧ x < T
    · obtain ⟨y, y0, y1, e⟩ := hc x (full x h.1 h.2)
      exact ⟨y, fun _ _ => ⟨y0, y1, e⟩⟩
    · exact ⟨0, fun a b => absurd ⟨a, b⟩ h⟩
  have Y : ∃ Y : Int → Int, ∀ x : Int, 0 ≤ x → x < (T : Int) → 0 ≤ Y x ∧ Y x < (T : Int) ∧ M (Y x) = x := ⟨fun x => Classical.choose (pick x), fun x => Classical.choose_spec (pick x)⟩
  obtain ⟨Y, hY⟩ := Y
  have hl : ∀ x : Int, 0 ≤ x → x < (T : Int) → b x < b (Y x) ∨ (b x = b (Y x) ∧ x < Y x) := by
    intro x x0 x1
    have q := hY x x0 x1
    rcases hM.1 (Y x) q.1 q.2.1 with z | z
    · omega
    · rw [q.2.2] at z
      exact hR x (Y x) x0 x1 q.1 q.2.1 z.2.2
  generalize hg : itF Y 0 = G
  have g0 : G 0 = 0 := by rw [← hg]; rfl
  have gs : ∀ n, G (n + 1) = Y (G n) := by intro n; rw [← hg]; rfl
  have gL : ∀ n, 0 ≤ G n ∧ G n < T := by
    intro n
    induction n with
    | zero => rw [g0]; omega
    | succ n ih => rw [gs]; have := hY _ ih.1 ih.2; exact ⟨this.1, this.2.1⟩
  have up : ∀ d i : Nat, b (G i) < b (G (i + d + 1)) ∨ (b (G i) = b (G (i + d + 1)) ∧ G i < G (i + d + 1)) := by
    intro d
    induction d with
    | zero =>
      intro i
      rw [show i + 0 + 1 = i + 1 by omega, gs]
      exact hl _ (gL i).1 (gL i).2
    | succ d ih =>
      intro i
      have h1 := ih i
      have h2 := hl _ (gL (i + d + 1)).1 (gL (i + d + 1)).2
      rw [show i + (d + 1) + 1 = i + d + 1 + 1 by omega, gs]
      omega
  obtain ⟨i, j, hij, hj, e⟩ := pigeon T G (fun i _ => gL i)
  have := up (j - i - 1) i
  rw [show i + (j - i - 1) + 1 = j by omega, e] at this
  omega

/-! the machine -/
/-- operators of two operands -/
def kB (k : Int) : Prop := k = 14 ∨ k = 15 ∨ (25 ≤ k ∧ k ≤ 31)
def hdS : List Int → Int
  | [] => 0
  | k :: _ => stg k
/-- what waits, as it must be, at that depth of brackets -/
def wI : List Int → Int → Prop
  | [], d => d = 0
  | k :: r, d => (k = 32 ∧ 1 ≤ d ∧ wI r (d - 1)) ∨ (k = 16 ∧ d = 0 ∧ wI r 0 ∧ hdS r ≤ 3) ∨ (kB k ∧ wI r d ∧ hdS r < stg k ∧ (0 < d → 5 ≤ stg k))
theorem wI_d : ∀ {W : List Int} {d : Int}, wI W d → 0 ≤ d := by
  intro W
  induction W with
  | nil => intro d h; have h : d = 0 := h; omega
  | cons k r ih =>
    intro d h
    rcases h with h | h | h
    · omega
    · omega
    · exact ih h.2.1
theorem stl_cd {s : Int} : ∀ {W : List Int} {V : jM}, (stl s W V).2 0 16 + ((stl s W V).1.length : Int) = V 0 16 + (W.length : Int) ∧ V 0 16 ≤ (stl s W V).2 0 16 ∧ (∀ j, j ≠ 16 → (stl s W V).2 0 j = V 0 j) ∧ (∀ p, p ≠ 0 → p ≠ 32 → (stl s W V).2 p = V p) ∧ ∀ i, i < V 0 16 → (stl s W V).2 32 i = V 32 i := by
  intro W
  induction W with
  | nil => intro V; exact ⟨rfl, Int.le_refl _, fun _ _ => rfl, fun _ _ _ => rfl, fun _ _ => rfl⟩
  | cons k r ih =>
    intro V
    simp only [stl]
    split
    · have h := ih (V := cdF (-k - 1) V)
      have e : cdF (-k - 1) V 0 16 = V 0 16 + 1 := rfl
      rw [e] at h
      refine ⟨by simp only [List.length_cons]; omega, by omega, fun j hj => (h.2.2.1 j hj).trans (by simp [cdF, jup, hj]), fun p p0 p1 => (h.2.2.2.1 p p0 p1).trans (by unfold cdF; rw [jup_ne p0, jup_ne p1]), fun i hi => (h.2.2.2.2 i (by omega)).trans ?_⟩
      unfold cdF
      rw [jup_ne (by decide), jup_self, if_neg (by omega)]
    · exact ⟨rfl, Int.le_refl _, fun _ _ => rfl, fun _ _ _ => rfl, fun _ _ => rfl⟩
theorem stl_wI {s : Int} (hs : 1 ≤ s) : ∀ {W : List Int} {V : jM} {d : Int}, wI W d → wI (stl s W V).1 d ∧ hdS (stl s W V).1 < s ∧ ∀ k ∈ (stl s W V).1, k ∈ W := by
  intro W
  induction W with
  | nil => intro V d h; exact ⟨h, by show (0 : Int) < s; omega, fun k hk => hk⟩
  | cons k r ih =>
    intro V d h
    simp only [stl]
    split
    · rename_i c
      have hr : wI r d := by
        rcases h with w | w | w
        · rw [w.1] at c
          have : stg 32 = 0 := rfl
          omega
        · rw [w.2.1]; exact w.2.2.1
        · exact w.2.1
      have x := ih (V := cdF (-k - 1) V) hr
      exact ⟨x.1, x.2.1, fun y hy => by simp [x.2.2 y hy]⟩
    · exact ⟨h, by show stg k < s; omega, fun y hy => hy⟩
/-- below a bracket's strength there is only a bracket -/
theorem wI_open {W : List Int} {d : Int} (h : wI W d) (hd : 0 < d) (hs : hdS W < 1) : ∃ r, W = 32 :: r ∧ wI r (d - 1) := by
  cases W with
  | nil => have h : d = 0 := h; omega
  | cons k r =>
    rcases h with w | w | w
    · exact ⟨r, by rw [w.1], w.2.2⟩
    · omega
    · have := w.2.2.2 hd
      have hs : stg k < 1 := hs
      omega
/-- how many operators of two operands wait -/
def nbW : List Int → Int
  | [] => 0
  | k :: r => (if k = 16 ∨ k = 32 then 0 else 1) + nbW r
theorem nbW_bd : ∀ {W : List Int} {d : Int}, wI W d → 0 ≤ nbW W ∧ nbW W ≤ 2 * d + 5 ∧ (hdS W ≤ 4 → nbW W ≤ 2 * d + 3) ∧ (hdS W ≤ 5 → nbW W ≤ 2 * d + 4) ∧ (d = 0 → hdS W ≤ 3 → nbW W ≤ 2) ∧ (d = 0 → hdS W ≤ 1 → nbW W ≤ 1) ∧ (d = 0 → hdS W ≤ 0 → nbW W ≤ 0) := by
  intro W
  induction W with
  | nil =>
    intro d h
    have h : d = 0 := h
    have e : nbW [] = 0 := rfl
    rw [e]
    omega
  | cons k r ih =>
    intro d h
    have hk : hdS (k :: r) = stg k := rfl
    have sg := stg_in k
    simp only [nbW]
    rw [hk]
    rcases h with ⟨h1, h2, h3⟩ | ⟨h1, h2, h3, h4⟩ | ⟨h1, h2, h3, h4⟩
    · have x := ih h3
      subst h1
      have e : stg 32 = 0 := rfl
      rw [if_pos (Or.inr rfl), e]
      omega
    · have x := ih h3
      subst h1
      have e : stg 16 = 3 := rfl
      rw [if_pos (Or.inl rfl), e]
      omega
    · have x := ih h2
      have w0 := wI_d h2
      have nk : ¬ (k = 16 ∨ k = 32) := by unfold kB at h1; omega
      have sk : stg k = 1 ∨ stg k = 2 ∨ stg k = 4 ∨ stg k = 5 ∨ stg k = 6 := by
        unfold kB at h1
        have c : k = 14 ∨ k = 15 ∨ k = 25 ∨ k = 26 ∨ k = 27 ∨ k = 28 ∨ k = 29 ∨ k = 30 ∨ k = 31 := by omega
        rcases c with rfl | rfl | rfl | rfl | rfl | rfl | rfl | rfl | rfl <;> decide
      rw [if_neg nk]
      rcases sk with e | e | e | e | e <;> omega
def mayF (V : jM) (k : Int) : Prop := k = 25 ∨ k = 26 ∨ k = 27 ∨ (V 0 23 ≤ 0 ∧ ((V 0 22 ≠ 0 ∧ 28 ≤ k ∧ k ≤ 31) ∨ (V 0 22 = 0 ∧ (k = 15 ∨ k = 14 ∨ k = 24))))
abbrev XR := (Int × Int × Int) × List Int × jM
/-- an operand's step -/
def opd (K S Wv : Int → Int) (X : XR) : XR :=
  if K X.1.1 = 16 ∧ X.2.2 0 21 ≠ 0 then (stq K S 16 X.1, 16 :: X.2.1, X.2.2)
  else if K X.1.1 = 32 then (stq K S 32 (rmF S (X.2.2 0 23) 6 X.1), 32 :: X.2.1, jup (jup X.2.2 0 23 (X.2.2 0 23 + 1)) 0 21 0)
  else if K X.1.1 = 23 then (stq K S 23 X.1, X.2.1, jup (jup (cdF (Wv X.1.1) X.2.2) 0 21 0) 0 20 0)
  else if 17 ≤ K X.1.1 ∧ K X.1.1 ≤ 21 then (stq K S (K X.1.1) X.1, X.2.1, jup (jup (cdF (-(K X.1.1) - 1) X.2.2) 0 21 0) 0 20 0)
  else (flF S 1 X.1, X.2.1, X.2.2)
/-- the flags behind an operator -/
def opF (k : Int) (V : jM) : jM := if k = 15 ∨ k = 14 then jup (jup (jup V 0 20 1) 0 21 1) 0 22 1 else if 28 ≤ k ∧ k ≤ 31 then jup (jup V 0 20 1) 0 22 0 else jup V 0 20 1
/-- an operator's step -/
noncomputable def opr (K S : Int → Int) (X : XR) : XR :=
  if K X.1.1 = 33 ∧ 0 < X.2.2 0 23 then (stq K S 33 X.1, (stl 1 X.2.1 X.2.2).1.tail, jup (stl 1 X.2.1 X.2.2).2 0 23 (X.2.2 0 23 - 1))
  else @ite _ (mayF X.2.2 (K X.1.1)) (Classical.propDecidable _) (if K X.1.1 = 24 then (stq K S 24 X.1, stl 1 X.2.1 X.2.2) else (stq K S (K X.1.1) X.1, K X.1.1 :: (stl (stg (K X.1.1)) X.2.1 X.2.2).1, opF (K X.1.1) (stl (stg (K X.1.1)) X.2.1 X.2.2).2)) (flF S 1 X.1, X.2.1, X.2.2)

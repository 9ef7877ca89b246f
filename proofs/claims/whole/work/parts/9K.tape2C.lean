theorem teI_F {K S W : Int → Int} {n : Int} {P : Int × Int × Int} {V : jM} (hv : tV K W n) (h : teI n P V) (h0 : P.2.1 = 0) (hz : (teF K S W P V).1.2.1 = 0) : teI n (teF K S W P V).1 (teF K S W P V).2 ∧ P.1 < (teF K S W P V).1.1 := by
  unfold teF at hz ⊢
  by_cases c0 : K P.1 = 0
  · rw [if_pos c0] at hz ⊢; simp only at hz ⊢; rw [if_pos hz]; exact teI_place hv h hz
  rw [if_neg c0] at hz ⊢
  by_cases c1 : K P.1 = 1
  · rw [if_pos c1] at hz ⊢; simp only at hz ⊢; rw [if_pos hz]; exact teI_way hv h hz
  rw [if_neg c1] at hz ⊢
  by_cases c2 : K P.1 = 2
  · rw [if_pos c2] at hz ⊢; simp only at hz ⊢; rw [if_pos hz]; exact teI_school hv h hz
  rw [if_neg c2] at hz ⊢
  by_cases c3 : K P.1 = 3
  · rw [if_pos c3] at hz ⊢; simp only at hz ⊢; rw [if_pos hz]; exact teI_stop hv h hz
  rw [if_neg c3] at hz ⊢
  by_cases c4 : K P.1 = 4
  · rw [if_pos c4] at hz ⊢; simp only at hz ⊢; exact teI_right hv h hz
  rw [if_neg c4] at hz ⊢
  by_cases c5 : 5 ≤ K P.1 ∧ K P.1 ≤ 9
  · rw [if_pos c5] at hz ⊢; simp only at hz ⊢; rw [if_pos hz]; exact teI_rule hv h (by omega) hz
  rw [if_neg c5] at hz ⊢
  by_cases c6 : K P.1 = 10
  · rw [if_pos c6] at hz ⊢; simp only at hz ⊢; rw [if_pos hz]; exact teI_bus hv h hz
  rw [if_neg c6] at hz
  exact absurd hz (flF_ne (by decide))
/-- the TELLs, until a fault or the end -/
noncomputable def tlF (K S W : Int → Int) : Nat → (Int × Int × Int) × jM → (Int × Int × Int) × jM
  | 0, X => X
  | f + 1, X => if X.1.2.1 ≠ 0 ∨ K X.1.1 = 34 then X else tlF K S W f (teF K S W X.1 X.2)

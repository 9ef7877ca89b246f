/-! the class reads the tape -/
theorem xlp_I {K S Wv : Int → Int} {n : Int} (hv : tV K Wv n) : ∀ {f : Nat} {X : XR}, XI n X → (xlp K S Wv f X).1.2.1 = 0 → XI n (xlp K S Wv f X) ∧ X.1.1 ≤ (xlp K S Wv f X).1.1 := by
  intro f
  induction f with
  | zero => intro X h _; exact ⟨h, Int.le_refl _⟩
  | succ f ih =>
    intro X h hz
    simp only [xlp] at hz ⊢
    by_cases c : X.1.2.1 ≠ 0
    · rw [if_pos c] at hz ⊢
      exact ⟨h, Int.le_refl _⟩
    · rw [if_neg c] at hz ⊢
      by_cases d : X.2.2 0 20 = 0
      · rw [if_pos d] at hz ⊢
        by_cases e : K X.1.1 = 24
        · rw [if_pos e] at hz ⊢
          have x := XI_opr hv h d hz
          exact ⟨x.1, by rw [x.2.1]; omega⟩
        · rw [if_neg e] at hz ⊢
          by_cases w : (opr K S X).1.2.1 = 0
          · have x := XI_opr hv h d w
            have y := ih x.1 hz
            exact ⟨y.1, by have := x.2.1; have := y.2; omega⟩
          · rw [xlp_f w] at hz; exact absurd hz w
      · rw [if_neg d] at hz ⊢
        by_cases w : (opd K S Wv X).1.2.1 = 0
        · have x := XI_opd hv h w
          have y := ih x.1 hz
          exact ⟨y.1, by have := x.2; have := y.2; omega⟩
        · rw [xlp_f w] at hz; exact absurd hz w

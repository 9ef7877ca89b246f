/-! a cond's loop -/
/-- the machine's state as it must be -/
def XI (n : Int) (X : XR) : Prop := wI X.2.1 (X.2.2 0 23) ∧ (X.2.2 0 21 ≠ 0 → X.2.2 0 23 = 0 ∧ hdS X.2.1 ≤ 3) ∧ X.2.2 0 16 + (X.2.1.length : Int) + 2 ≤ X.1.1 ∧ X.2.2 0 23 ≤ 6 ∧ X.1.1 ≤ n ∧ 0 ≤ X.2.2 0 16 ∧ (X.2.2 0 20 = 0 → X.2.2 0 21 = 0)
theorem XI_opd {K S Wv : Int → Int} {n : Int} {X : XR} (hv : tV K Wv n) (h : XI n X) (hz : (opd K S Wv X).1.2.1 = 0) : XI n (opd K S Wv X) ∧ (opd K S Wv X).1.1 = X.1.1 + 1 := by
  obtain ⟨P, W, V⟩ := X
  obtain ⟨h1, h2, h3, h4, h5, h6, h7⟩ := h
  simp only at h1 h2 h3 h4 h5 h6 h7
  have d0 := wI_d h1
  unfold opd at hz ⊢
  simp only at hz ⊢
  by_cases c1 : K P.1 = 16 ∧ V 0 21 ≠ 0
  · rw [if_pos c1] at hz ⊢
    have s := stq_ok hz
    have hn := stq_n (S := S) (P := P) hv h5 (show (16 : Int) ≤ 33 by decide)
    have e := h2 c1.2
    refine ⟨⟨Or.inr (Or.inl ⟨rfl, e.1, by rw [← e.1]; exact h1, e.2⟩), fun _ => ⟨e.1, by show stg 16 ≤ 3; decide⟩, ?_, h4, hn, h6, h7⟩, by rw [s.2.2.2]⟩
    rw [s.2.2.2]
    simp only [List.length_cons]
    omega
  · rw [if_neg c1] at hz ⊢
    by_cases c2 : K P.1 = 32
    · rw [if_pos c2] at hz ⊢
      have s := stq_ok hz
      have r := rmF_ok s.1
      have hn := stq_n (S := S) (P := rmF S (V 0 23) 6 P) hv (by rw [rmF_1]; exact h5) (show (32 : Int) ≤ 33 by decide)
      have e23 : (jup (jup V 0 23 (V 0 23 + 1)) 0 21 0) 0 23 = V 0 23 + 1 := by simp [jup]
      have e21 : (jup (jup V 0 23 (V 0 23 + 1)) 0 21 0) 0 21 = 0 := by simp [jup]
      have e16 : (jup (jup V 0 23 (V 0 23 + 1)) 0 21 0) 0 16 = V 0 16 := by simp [jup]
      have er : (stq K S 32 (rmF S (V 0 23) 6 P)).1 = P.1 + 1 := by rw [s.2.2.2, r.2.2]
      refine ⟨⟨?_, fun w => absurd e21 w, ?_, ?_, hn, ?_, fun _ => e21⟩, er⟩
      · show wI (32 :: W) ((jup (jup V 0 23 (V 0 23 + 1)) 0 21 0) 0 23)
        rw [e23]
        exact Or.inl ⟨rfl, by omega, by rw [show V 0 23 + 1 - 1 = V 0 23 by omega]; exact h1⟩
      · show (jup (jup V 0 23 (V 0 23 + 1)) 0 21 0) 0 16 + (((32 :: W).length : Nat) : Int) + 2 ≤ _
        rw [e16, er]
        simp only [List.length_cons]
        omega
      · show (jup (jup V 0 23 (V 0 23 + 1)) 0 21 0) 0 23 ≤ 6
        rw [e23]; have := r.2.1; omega
      · show 0 ≤ (jup (jup V 0 23 (V 0 23 + 1)) 0 21 0) 0 16
        rw [e16]; exact h6
    · rw [if_neg c2] at hz ⊢
      have val : ∀ k c, k ≤ 33 → (stq K S k P).2.1 = 0 → XI n (stq K S k P, W, jup (jup (cdF c V) 0 21 0) 0 20 0) ∧ (stq K S k P).1 = P.1 + 1 := by
        intro k c hk hz
        have s := stq_ok hz
        have hn := stq_n (S := S) (P := P) hv h5 hk
        have e23 : (jup (jup (cdF c V) 0 21 0) 0 20 0) 0 23 = V 0 23 := by simp [jup, cdF]
        have e21 : (jup (jup (cdF c V) 0 21 0) 0 20 0) 0 21 = 0 := by simp [jup]
        have e16 : (jup (jup (cdF c V) 0 21 0) 0 20 0) 0 16 = V 0 16 + 1 := by simp [jup, cdF]
        have er : (stq K S k P).1 = P.1 + 1 := by rw [s.2.2.2]
        refine ⟨⟨?_, fun w => absurd e21 w, ?_, ?_, hn, ?_, fun _ => e21⟩, er⟩
        · show wI W ((jup (jup (cdF c V) 0 21 0) 0 20 0) 0 23)
          rw [e23]; exact h1
        · show (jup (jup (cdF c V) 0 21 0) 0 20 0) 0 16 + ((W.length : Nat) : Int) + 2 ≤ (stq K S k P).1
          rw [e16, er]; omega
        · show (jup (jup (cdF c V) 0 21 0) 0 20 0) 0 23 ≤ 6
          rw [e23]; exact h4
        · show 0 ≤ (jup (jup (cdF c V) 0 21 0) 0 20 0) 0 16
          rw [e16]; omega
      by_cases c3 : K P.1 = 23
      · rw [if_pos c3] at hz ⊢
        exact val 23 _ (by decide) hz
      · rw [if_neg c3] at hz ⊢
        by_cases c4 : 17 ≤ K P.1 ∧ K P.1 ≤ 21
        · rw [if_pos c4] at hz ⊢
          exact val _ _ (by omega) hz
        · rw [if_neg c4] at hz
          exact absurd hz (flF_ne (by decide))

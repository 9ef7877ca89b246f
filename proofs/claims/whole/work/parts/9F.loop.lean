/-! a cond's loop -/
/-- the machine's state as it must be -/
def XI (n : Int) (X : XR) : Prop := wI X.2.1 (X.2.2 0 23) ∧ (X.2.2 0 21 ≠ 0 → X.2.2 0 23 = 0 ∧ hdS X.2.1 ≤ 3) ∧ X.2.2 0 16 + (X.2.1.length : Int) + 2 ≤ X.1.1 ∧ X.2.2 0 23 ≤ 6 ∧ X.1.1 ≤ n ∧ 0 ≤ X.2.2 0 16 ∧ (X.2.2 0 20 = 0 → X.2.2 0 21 = 0)
theorem XI_opd {K S Wv : Int → Int} {n : Int} {X : XR} (hv : tV K Wv n) (h : XI n X) (hz : (opd K S Wv X).1.2.1 = 0) : XI n (opd K S Wv X) ∧ (opd K S Wv X).1.1 = X.1.1 + 1 := by
  obtain ⟨P, W, V⟩ := X
  obtain ⟨h1, h2, h3, h4, h5, h6, h7⟩ := h
  simp only at h1 h2 h3 h4 h5 h6 h7
  have d0 := wI_d h1
  unfold opd at hz ⊢
  simp only at hz ⊢
  by_cases c1 : K P.1 = 16 ∧ V 0 21 ≠ 0
  · rw [if_pos c1] at hz ⊢
    have s := stq_ok hz
    have hn := stq_n (S := S) (P := P) hv h5 (show (16 : Int) ≤ 33 by decide)
    have e := h2 c1.2
    refine ⟨⟨Or.inr (Or.inl ⟨rfl, e.1, by rw [← e.1]; exact h1, e.2⟩), fun _ => ⟨e.1, by show stg 16 ≤ 3; decide⟩, ?_, h4, hn, h6, h7⟩, by rw [s.2.2.2]⟩
    rw [s.2.2.2]
    simp only [List.length_cons]
    omega
  · rw [if_neg c1] at hz ⊢
    by_cases c2 : K P.1 = 32
    · rw [if_pos c2] at hz ⊢
      have s := stq_ok hz
      have r := rmF_ok s.1
      have hn := stq_n (S := S) (P := rmF S (V 0 23) 6 P) hv (by rw [rmF_1]; exact h5) (show (32 : Int) ≤ 33 by decide)
      have e23 : (jup (jup V 0 23 (V 0 23 + 1)) 0 21 0) 0 23 = V 0 23 + 1 := by simp [jup]
      have e21 : (jup (jup V 0 23 (V 0 23 + 1)) 0 21 0) 0 21 = 0 := by simp [jup]
      have e16 : (jup (jup V 0 23 (V 0 23 + 1)) 0 21 0) 0 16 = V 0 16 := by simp [jup]
      have er : (stq K S 32 (rmF S (V 0 23) 6 P)).1 = P.1 + 1 := by rw [s.2.2.2, r.2.2]
      refine ⟨⟨?_, fun w => absurd e21 w, ?_, ?_, hn, ?_, fun _ => e21⟩, er⟩
      · show wI (32 :: W) ((jup (jup V 0 23 (V 0 23 + 1)) 0 21 0) 0 23)
        rw [e23]
        exact Or.inl ⟨rfl, by omega, by rw [show V 0 23 + 1 - 1 = V 0 23 by omega]; exact h1⟩
      · show (jup (jup V 0 23 (V 0 23 + 1)) 0 21 0) 0 16 + (((32 :: W).length : Nat) : Int) + 2 ≤ _
        rw [e16, er]
        simp only [List.length_cons]
        omega
      · show (jup (jup V 0 23 (V 0 23 + 1)) 0 21 0) 0 23 ≤ 6
        rw [e23]; have := r.2.1; omega
      · show 0 ≤ (jup (jup V 0 23 (V 0 23 + 1)) 0 21 0) 0 16
        rw [e16]; exact h6
    · rw [if_neg c2] at hz ⊢
      have val : ∀ k c, k ≤ 33 → (stq K S k P).2.1 = 0 → XI n (stq K S k P, W, jup (jup (cdF c V) 0 21 0) 0 20 0) ∧ (stq K S k P).1 = P.1 + 1 := by
        intro k c hk hz
        have s := stq_ok hz
        have hn := stq_n (S := S) (P := P) hv h5 hk
        have e23 : (jup (jup (cdF c V) 0 21 0) 0 20 0) 0 23 = V 0 23 := by simp [jup, cdF]
        have e21 : (jup (jup (cdF c V) 0 21 0) 0 20 0) 0 21 = 0 := by simp [jup]
        have e16 : (jup (jup (cdF c V) 0 21 0) 0 20 0) 0 16 = V 0 16 + 1 := by simp [jup, cdF]
        have er : (stq K S k P).1 = P.1 + 1 := by rw [s.2.2.2]
        refine ⟨⟨?_, fun w => absurd e21 w, ?_, ?_, hn, ?_, fun _ => e21⟩, er⟩
        · show wI W ((jup (jup (cdF c V) 0 21 0) 0 20 0) 0 23)
          rw [e23]; exact h1
        · show (jup (jup (cdF c V) 0 21 0) 0 20 0) 0 16 + ((W.length : Nat) : Int) + 2 ≤ (stq K S k P).1
          rw [e16, er]; omega
        · show (jup (jup (cdF c V) 0 21 0) 0 20 0) 0 23 ≤ 6
          rw [e23]; exact h4
        · show 0 ≤ (jup (jup (cdF c V) 0 21 0) 0 20 0) 0 16
          rw [e16]; omega
      by_cases c3 : K P.1 = 23
      · rw [if_pos c3] at hz ⊢
        exact val 23 _ (by decide) hz
      · rw [if_neg c3] at hz ⊢
        by_cases c4 : 17 ≤ K P.1 ∧ K P.1 ≤ 21
        · rw [if_pos c4] at hz ⊢
          exact val _ _ (by omega) hz
        · rw [if_neg c4] at hz
          exact absurd hz (flF_ne (by decide))
theorem XI_opr {K S Wv : Int → Int} {n : Int} {X : XR} (hv : tV K Wv n) (h : XI n X) (hdue : X.2.2 0 20 = 0) (hz : (opr K S X).1.2.1 = 0) : XI n (opr K S X) ∧ (opr K S X).1.1 = X.1.1 + 1 ∧ (K X.1.1 = 24 → X.2.2 0 23 = 0 ∧ (opr K S X).2.1 = []) := by
  obtain ⟨P, W, V⟩ := X
  obtain ⟨h1, h2, h3, h4, h5, h6, h7⟩ := h
  simp only at h1 h2 h3 h4 h5 h6 h7 hdue
  have d0 := wI_d h1
  have ng := h7 hdue
  unfold opr at hz ⊢
  simp only at hz ⊢
  by_cases c1 : K P.1 = 33 ∧ 0 < V 0 23
  · rw [if_pos c1] at hz ⊢
    simp only at hz ⊢
    have s := stq_ok hz
    have hn := stq_n (S := S) (P := P) hv h5 (show (33 : Int) ≤ 33 by decide)
    have sw := stl_wI (s := 1) (by decide) (V := V) h1
    have sc := stl_cd (s := 1) (W := W) (V := V)
    obtain ⟨r, er, hr⟩ := wI_open sw.1 c1.2 sw.2.1
    rw [er] at sc ⊢
    have hlen := sc.1
    simp only [List.length_cons] at hlen
    have e23 : (jup (stl 1 W V).2 0 23 (V 0 23 - 1)) 0 23 = V 0 23 - 1 := jup_s
    have e21 : (jup (stl 1 W V).2 0 23 (V 0 23 - 1)) 0 21 = V 0 21 := (jup_j (by decide)).trans (sc.2.2.1 21 (by decide))
    have e16 : (jup (stl 1 W V).2 0 23 (V 0 23 - 1)) 0 16 = (stl 1 W V).2 0 16 := jup_j (by decide)
    refine ⟨⟨?_, fun w => absurd (e21.trans ng) w, ?_, ?_, hn, ?_, fun _ => e21.trans ng⟩, by rw [s.2.2.2], fun w => absurd w (by omega)⟩
    · show wI r ((jup (stl 1 W V).2 0 23 (V 0 23 - 1)) 0 23)
      rw [e23]; exact hr
    · show (jup (stl 1 W V).2 0 23 (V 0 23 - 1)) 0 16 + ((r.length : Nat) : Int) + 2 ≤ (stq K S 33 P).1
      rw [e16, s.2.2.2]
      show _ ≤ P.1 + 1
      omega
    · show (jup (stl 1 W V).2 0 23 (V 0 23 - 1)) 0 23 ≤ 6
      rw [e23]; omega
    · show 0 ≤ (jup (stl 1 W V).2 0 23 (V 0 23 - 1)) 0 16
      rw [e16]; omega
  · rw [if_neg c1] at hz ⊢
    by_cases my : mayF V (K P.1)
    · rw [if_pos my] at hz ⊢
      by_cases c24 : K P.1 = 24
      · rw [if_pos c24] at hz ⊢
        simp only at hz ⊢
        have s := stq_ok hz
        have hn := stq_n (S := S) (P := P) hv h5 (show (24 : Int) ≤ 33 by decide)
        have sw := stl_wI (s := 1) (by decide) (V := V) h1
        have sc := stl_cd (s := 1) (W := W) (V := V)
        have dz : V 0 23 = 0 := by unfold mayF at my; omega
        have en : (stl 1 W V).1 = [] := by
          have w1 := sw.1
          have w2 := sw.2.1
          cases hh : (stl 1 W V).1 with
          | nil => rfl
          | cons k r =>
            rw [hh] at w1 w2
            have w2 : stg k < 1 := w2
            rcases w1 with w | w | w
            · omega
            · rw [w.1] at w2; exact absurd w2 (by decide)
            · have kb := w.1
              unfold kB at kb
              have c : k = 14 ∨ k = 15 ∨ k = 25 ∨ k = 26 ∨ k = 27 ∨ k = 28 ∨ k = 29 ∨ k = 30 ∨ k = 31 := by omega
              rcases c with rfl | rfl | rfl | rfl | rfl | rfl | rfl | rfl | rfl <;> exact absurd w2 (by decide)
        have e21 := (sc.2.2.1 21 (by decide)).trans ng
        refine ⟨⟨?_, fun w => absurd e21 w, ?_, ?_, hn, ?_, fun _ => e21⟩, by rw [s.2.2.2], fun _ => ⟨dz, en⟩⟩
        · show wI (stl 1 W V).1 ((stl 1 W V).2 0 23)
          rw [sc.2.2.1 23 (by decide)]; exact sw.1
        · show (stl 1 W V).2 0 16 + (((stl 1 W V).1.length : Nat) : Int) + 2 ≤ (stq K S 24 P).1
          rw [s.2.2.2]
          show _ ≤ P.1 + 1
          have := sc.1
          omega
        · show (stl 1 W V).2 0 23 ≤ 6
          rw [sc.2.2.1 23 (by decide)]; exact h4
        · show 0 ≤ (stl 1 W V).2 0 16
          have := sc.2.1
          omega
      · rw [if_neg c24] at hz ⊢
        simp only at hz ⊢
        have s := stq_ok hz
        have kb : kB (K P.1) := by unfold mayF at my; unfold kB; omega
        have s1 : 1 ≤ stg (K P.1) ∧ (0 < V 0 23 → 5 ≤ stg (K P.1)) ∧ ((K P.1 = 15 ∨ K P.1 = 14) → V 0 23 = 0 ∧ stg (K P.1) ≤ 3) := by
          unfold mayF at my
          have c : K P.1 = 14 ∨ K P.1 = 15 ∨ K P.1 = 25 ∨ K P.1 = 26 ∨ K P.1 = 27 ∨ K P.1 = 28 ∨ K P.1 = 29 ∨ K P.1 = 30 ∨ K P.1 = 31 := by unfold kB at kb; omega
          rcases c with e | e | e | e | e | e | e | e | e <;> rw [e] at my ⊢ <;> unfold stg <;> simp <;> omega
        have hn := stq_n (S := S) (k := K P.1) (P := P) hv h5 (by unfold kB at kb; omega)
        have sw := stl_wI (s := stg (K P.1)) s1.1 (V := V) h1
        have sc := stl_cd (s := stg (K P.1)) (W := W) (V := V)
        have o23 : opF (K P.1) (stl (stg (K P.1)) W V).2 0 23 = V 0 23 := by
          rw [← sc.2.2.1 23 (by decide)]; unfold opF; split
          · simp [jup]
          · split <;> simp [jup]
        have o16 : opF (K P.1) (stl (stg (K P.1)) W V).2 0 16 = (stl (stg (K P.1)) W V).2 0 16 := by
          unfold opF; split
          · simp [jup]
          · split <;> simp [jup]
        have o20 : opF (K P.1) (stl (stg (K P.1)) W V).2 0 20 = 1 := by
          unfold opF; split
          · simp [jup]
          · split <;> simp [jup]
        have o21 : ¬ (K P.1 = 15 ∨ K P.1 = 14) → opF (K P.1) (stl (stg (K P.1)) W V).2 0 21 = 0 := by
          intro hh
          have e := (sc.2.2.1 21 (by decide)).trans ng
          unfold opF; rw [if_neg hh]
          split <;> simp [jup] <;> exact e
        refine ⟨⟨?_, fun w => ?_, ?_, ?_, hn, ?_, fun w => absurd (o20.symm.trans w) (by decide)⟩, by rw [s.2.2.2], fun w => absurd w c24⟩
        · show wI (K P.1 :: (stl (stg (K P.1)) W V).1) (opF (K P.1) (stl (stg (K P.1)) W V).2 0 23)
          rw [o23]
          exact Or.inr (Or.inr ⟨kb, sw.1, sw.2.1, s1.2.1⟩)
        · by_cases c : K P.1 = 15 ∨ K P.1 = 14
          · exact ⟨o23.trans (s1.2.2 c).1, (s1.2.2 c).2⟩
          · exact absurd (o21 c) w
        · show opF (K P.1) (stl (stg (K P.1)) W V).2 0 16 + (((K P.1 :: (stl (stg (K P.1)) W V).1).length : Nat) : Int) + 2 ≤ (stq K S (K P.1) P).1
          rw [o16, s.2.2.2]
          simp only [List.length_cons]
          have := sc.1
          omega
        · show opF (K P.1) (stl (stg (K P.1)) W V).2 0 23 ≤ 6
          rw [o23]; exact h4
        · show 0 ≤ opF (K P.1) (stl (stg (K P.1)) W V).2 0 16
          rw [o16]; have := sc.2.1; omega
    · rw [if_neg my] at hz
      exact absurd hz (flF_ne (by decide))

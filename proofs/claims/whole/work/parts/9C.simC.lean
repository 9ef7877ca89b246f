/-! the class walks as the machine -/
theorem vCt_g {V m m' : jM} {t : Int} (h : vCt V t m) (hf : ∀ j, j = 1 ∨ j = 2 ∨ j = 7 ∨ j = 8 ∨ j = 11 ∨ j = 13 → m' t j = m t j) (hr : ∀ j, 1 ≤ j → j < 11 → j ≠ 8 → j ≠ 9 → m' (t + j) = m (t + j)) : vCt V t m' := by
  unfold vCt at *
  rw [hf 1 (by omega), hf 2 (by omega), hf 7 (by omega), hf 8 (by omega), hf 11 (by omega), hf 13 (by omega), hr 1 (by decide) (by decide) (by decide) (by decide), hr 2 (by decide) (by decide) (by decide) (by decide), hr 3 (by decide) (by decide) (by decide) (by decide), hr 4 (by decide) (by decide) (by decide) (by decide), hr 5 (by decide) (by decide) (by decide) (by decide), hr 6 (by decide) (by decide) (by decide) (by decide), hr 7 (by decide) (by decide) (by decide) (by decide), hr 10 (by decide) (by decide) (by decide) (by decide)]
  exact h
/-- all that a cond's steps write -/
def rdR (t : Int) (m m' : jM) : Prop := ∀ q i, (q ≠ 1 ∧ q ≠ 10 ∧ q ≠ t ∧ q ≠ t + 9) ∨ (q = 1 ∧ i ≠ 0 ∧ i ≠ 1 ∧ i ≠ 3 ∧ (i < 10 ∨ 14 < i)) ∨ (q = t ∧ i ≠ 16) → m' q i = m q i
theorem rdR_rf {t : Int} {m : jM} : rdR t m m := fun _ _ _ => rfl
theorem rdR_tr {t : Int} {m m1 m2 : jM} (h : rdR t m m1) (h2 : rdR t m1 m2) : rdR t m m2 := fun q i hq => (h2 q i hq).trans (h q i hq)
theorem rdR_row {t : Int} {m m' : jM} (h : rdR t m m') {q : Int} (hq : q ≠ 1 ∧ q ≠ 10 ∧ q ≠ t ∧ q ≠ t + 9) : m' q = m q := by
  funext i
  exact h q i (Or.inl hq)
theorem rdR_of {t : Int} {S : List Int} {F : List (Int × Int)} {m m' : jM} (ht : jTx t) (h : frx S F m m') (hs : ∀ p ∈ S, p = 10 ∨ p = t + 9) (hf : ∀ q ∈ F, (q.1 = 1 ∧ (q.2 = 0 ∨ q.2 = 1 ∨ q.2 = 3 ∨ (10 ≤ q.2 ∧ q.2 ≤ 14))) ∨ (q.1 = t ∧ q.2 = 16)) : rdR t m m' := by
  have tr := jTx_rng ht
  intro q i hq
  refine h q i (fun w => ?_) (fun w => ?_)
  · have := hs q w
    omega
  · have := hf _ w
    simp only at this
    omega
theorem cTk_rR {K S W : Int → Int} {m m' : jM} {t : Int} (ht : jTx t) (h : cTk K S W m) (hf : rdR t m m') : cTk K S W m' := by
  have tr := jTx_rng ht
  refine cTk_fr h (fun q hq => rdR_row hf ?_)
  simp only [List.mem_cons, List.not_mem_nil, or_false] at hq
  omega
theorem cMn_rR {V m m' : jM} {t : Int} (ht : jTx t) (h : cMn V t m) (hf : rdR t m m') : cMn V t m' := by
  have tr := jTx_rng ht
  refine ⟨⟨vCt_g h.1.1 (fun j hj => hf t j (Or.inr (Or.inr ⟨rfl, by omega⟩))) (fun j j0 j1 j8 j9 => rdR_row hf (by omega)), ?_⟩, cNm_fr h.2 (hf 1 8 (Or.inr (Or.inl (by omega)))) (hf 1 4 (Or.inr (Or.inl (by omega)))) (hf 1 5 (Or.inr (Or.inl (by omega)))) (rdR_row hf (by omega)) (rdR_row hf (by omega))⟩
  intro i i0 i1
  rw [hf t 7 (Or.inr (Or.inr ⟨rfl, by decide⟩))]
  exact h.1.2 i i0 i1
/-- fields of conds alone differ -/
theorem cMn_V2 {V V' m : jM} {t : Int} (h : cMn V t m) (h0 : ∀ j, j < 16 → V' 0 j = V 0 j) (h1 : ∀ p, p ≠ 0 → p ≠ 32 → V' p = V p) : cMn V' t m := by
  refine ⟨vb_V h.1 (fun j j0 j1 => h0 j (by omega)) (fun p p0 p1 => h1 p (by omega) (by omega)), ?_⟩
  have n := h.2
  unfold cNm at n ⊢
  rw [h0 10 (by decide), h0 11 (by decide), h0 12 (by decide), h1 30 (by decide) (by decide), h1 31 (by decide) (by decide)]
  exact n
def cFl (V m : jM) : Prop := m 1 11 = V 0 20 ∧ m 1 12 = V 0 21 ∧ m 1 13 = V 0 22 ∧ m 1 14 = V 0 23
/-- all but P -/
def cRr (t : Int) (K S Wv : Int → Int) (W : List Int) (V m : jM) : Prop := cTk K S Wv m ∧ cMn V t m ∧ cCd V t m ∧ cWt W m ∧ cFl V m
theorem cRr_ps {t : Int} {K S Wv : Int → Int} {W : List Int} {V m m' : jM} (ht : jTx t) (h : cRr t K S Wv W V m) (hf : frx [] psF m m') : cRr t K S Wv W V m' ∧ rdR t m m' := by
  have tr := jTx_rng ht
  obtain ⟨h1, h2, h3, h4, h5⟩ := h
  have r : rdR t m m' := rdR_of ht hf (by simp) (by simp)
  refine ⟨⟨cTk_rR ht h1 r, cMn_rR ht h2 r, ?_, ?_, ?_⟩, r⟩
  · have e9 : m' (t + 9) = m (t + 9) := frx_row hf (t + 9) (by simp) (by simp; omega)
    have e8 : m' (t + 8) = m (t + 8) := frx_row hf (t + 8) (by simp) (by simp; omega)
    unfold cCd at h3 ⊢
    rw [e9, e8, hf t 16 (by simp) (by simp <;> omega)]
    exact h3
  · unfold cWt at h4 ⊢
    rw [hf 1 10 (by simp) (by simp), frx_row hf 10 (by simp) (by simp)]
    exact h4
  · unfold cFl at h5 ⊢
    rw [hf 1 11 (by simp) (by simp), hf 1 12 (by simp) (by simp), hf 1 13 (by simp) (by simp), hf 1 14 (by simp) (by simp)]
    exact h5
theorem k_code {t c : Int} {K S Wv : Int → Int} {W : List Int} {V m : jM} {Q : Int → jM → Prop} (ht : jTx t) (h : cRr t K S Wv W V m) (hl : V 0 16 < 400) (hQ : ∀ m', rdR t m m' → (∀ i, m' 1 i = m 1 i) → cRr t K S Wv W (cdF c V) m' → Q 0 m') : ML iX8_addCode [(2, t), (0, c)] m Q := by
  have tr := jTx_rng ht
  obtain ⟨h1, h2, h3, h4, h5⟩ := h
  refine c_addCode ht h3 hl (fun m' f' C' => ?_)
  have r : rdR t m m' := rdR_of ht f' (by simp) (by simp)
  have e1 : m' 1 = m 1 := frx_row f' 1 (by simp; omega) (by simp; omega)
  have e10 : m' 10 = m 10 := frx_row f' 10 (by simp; omega) (by simp; omega)
  refine hQ m' r (fun i => by rw [e1]) ⟨cTk_rR ht h1 r, cMn_V2 (cMn_rR ht h2 r) (fun j hj => by unfold cdF; rw [jup_self, if_neg (by omega), jup_ne (by decide)]) (fun p p0 p1 => by unfold cdF; rw [jup_ne p0, jup_ne p1]), C', ?_, ?_⟩
  · unfold cWt at h4 ⊢
    rw [e1, e10]
    exact h4
  · unfold cFl at h5 ⊢
    rw [e1]
    exact h5
theorem k_await {t k : Int} {K S Wv : Int → Int} {W : List Int} {V m : jM} {Q : Int → jM → Prop} (ht : jTx t) (h : cRr t K S Wv W V m) (hl : (W.length : Int) < 400) (k0 : 0 ≤ k) (k1 : k ≤ 35) (hQ : ∀ m', rdR t m m' → (∀ i, i ≠ 10 → m' 1 i = m 1 i) → cRr t K S Wv (k :: W) V m' → Q 0 m') : ML iX4_await [(2, 1), (0, k)] m Q := by
  have tr := jTx_rng ht
  obtain ⟨h1, h2, h3, h4, h5⟩ := h
  refine c_await h4 hl k0 k1 (fun m' f' W' => ?_)
  have r : rdR t m m' := rdR_of ht f' (by simp) (by simp)
  have e1 : ∀ i, i ≠ 10 → m' 1 i = m 1 i := fun i hi => f' 1 i (by decide) (by simp [hi])
  refine hQ m' r e1 ⟨cTk_rR ht h1 r, cMn_rR ht h2 r, ?_, W', ?_⟩
  · unfold cCd at h3 ⊢
    rw [frx_row f' (t + 9) (by simp; omega) (by simp; omega), frx_row f' (t + 8) (by simp; omega) (by simp; omega), frx_row f' t (by simp; omega) (by simp; omega)]
    exact h3
  · unfold cFl at h5 ⊢
    rw [e1 11 (by decide), e1 12 (by decide), e1 13 (by decide), e1 14 (by decide)]
    exact h5
theorem k_settle {t s : Int} {K S Wv : Int → Int} {W : List Int} {V m : jM} {Q : Int → jM → Prop} (ht : jTx t) (h : cRr t K S Wv W V m) (hl : V 0 16 + (W.length : Int) ≤ 400) (hQ : ∀ m', rdR t m m' → (∀ i, i ≠ 10 → m' 1 i = m 1 i) → cRr t K S Wv (stl s W V).1 (stl s W V).2 m' → Q 0 m') : ML iX4_settle [(2, 1), (2, t), (0, s)] m Q := by
  have tr := jTx_rng ht
  obtain ⟨h1, h2, h3, h4, h5⟩ := h
  have sc := stl_cd (s := s) (W := W) (V := V)
  refine sX4_settle ht (c_settle ht h3 h4 hl (fun m' f' C' W' => ?_))
  have r : rdR t m m' := rdR_of ht f' (by simp) (by simp)
  have e1 : ∀ i, i ≠ 10 → m' 1 i = m 1 i := fun i hi => f' 1 i (by simp; omega) (by simp [hi]; omega)
  refine hQ m' r e1 ⟨cTk_rR ht h1 r, cMn_V2 (cMn_rR ht h2 r) (fun j hj => sc.2.2.1 j (by omega)) (fun p p0 p1 => sc.2.2.2.1 p p0 p1), C', W', ?_⟩
  unfold cFl at h5 ⊢
  rw [e1 11 (by decide), e1 12 (by decide), e1 13 (by decide), e1 14 (by decide), sc.2.2.1 20 (by decide), sc.2.2.1 21 (by decide), sc.2.2.1 22 (by decide), sc.2.2.1 23 (by decide)]
  exact h5
/-- flags move in both -/
theorem cRr_fl {t : Int} {K S Wv : Int → Int} {W : List Int} {V V' m m' : jM} (ht : jTx t) (h : cRr t K S Wv W V m) (hm : ∀ q, q ≠ 1 → m' q = m q) (h1 : ∀ i, i < 11 ∨ 14 < i → m' 1 i = m 1 i) (hV : ∀ p, p ≠ 0 → V' p = V p) (hV0 : ∀ j, j < 20 → V' 0 j = V 0 j) (hf : cFl V' m') : cRr t K S Wv W V' m' ∧ rdR t m m' := by
  have tr := jTx_rng ht
  have r : rdR t m m' := by
    intro q i hq
    by_cases e : q = 1
    · subst e; exact h1 i (by omega)
    · rw [hm q e]
  obtain ⟨g1, g2, g3, g4, g5⟩ := h
  refine ⟨⟨cTk_rR ht g1 r, cMn_V2 (cMn_rR ht g2 r) (fun j hj => hV0 j (by omega)) (fun p p0 _ => hV p p0), ?_, ?_, hf⟩, r⟩
  · unfold cCd at g3 ⊢
    rw [hm (t + 9) (by omega), hm (t + 8) (by omega), hm t (by omega), hV 32 (by decide), hV 33 (by decide), hV0 16 (by decide), hV0 4 (by decide)]
    exact g3
  · unfold cWt at g4 ⊢
    rw [h1 10 (by omega), hm 10 (by decide)]
    exact g4
theorem cPs_1 {P : Int × Int × Int} {m m' : jM} (h : cPs P m) (h1 : ∀ i, i < 10 → m' 1 i = m 1 i) : cPs P m' := cPs_fr h (h1 3 (by decide)) (h1 0 (by decide)) (h1 1 (by decide))

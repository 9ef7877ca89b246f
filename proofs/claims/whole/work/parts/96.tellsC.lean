/-! the class's TELLs but rights -/
def vb (V : jM) (t : Int) (m : jM) : Prop := vCt V t m ∧ bwI V t m
theorem vb_fr {V m m' : jM} {t : Int} (h : vb V t m) (hf : ∀ q, t ≤ q → q ≤ t + 10 → m' q = m q) : vb V t m' := by
  refine ⟨vCt_fr3 h.1 (fun j j0 j1 => hf _ (by omega) (by omega)), ?_⟩
  unfold bwI
  rw [hf t (by omega) (by omega)]
  exact h.2
theorem vb_V {V V' m : jM} {t : Int} (h : vb V t m) (h0 : ∀ j, 0 ≤ j → j ≤ 4 → V' 0 j = V 0 j) (h1 : ∀ p, 1 ≤ p → p ≤ 9 → V' p = V p) : vb V' t m := by
  refine ⟨vCt_V h.1 h0 h1, ?_⟩
  unfold bwI
  rw [h0 1 (by decide) (by decide)]
  exact h.2
/-- counts as they must be -/
def smOk (V : jM) : Prop := 0 ≤ V 0 0 ∧ V 0 0 ≤ 12 ∧ 0 ≤ V 0 1 ∧ V 0 1 ≤ 24 ∧ 0 ≤ V 0 2 ∧ V 0 2 ≤ 3 ∧ 0 ≤ V 0 3 ∧ V 0 3 ≤ 6 ∧ 0 ≤ V 0 4 ∧ V 0 4 ≤ 8 ∧ V 0 10 ≤ V 0 0 + V 0 2 + V 0 3
def cMn (V : jM) (t : Int) (m : jM) : Prop := vb V t m ∧ cNm V m
/-- all that TELLs but rights write -/
def rdU (t : Int) (m m' : jM) : Prop := ∀ q i, (q ≠ 1 ∧ q ≠ 8 ∧ q ≠ 9 ∧ q ≠ t ∧ (q < t + 1 ∨ t + 7 < q) ∧ q ≠ t + 10) ∨ (q = t ∧ (i = 0 ∨ i = 13 ∨ i = 16)) → m' q i = m q i
theorem rdU_rf {t : Int} {m : jM} : rdU t m m := fun _ _ _ => rfl
theorem rdU_tr {t : Int} {m m1 m2 : jM} (h : rdU t m m1) (h2 : rdU t m1 m2) : rdU t m m2 := fun q i hq => (h2 q i hq).trans (h q i hq)
theorem rdU_of {t : Int} {S : List Int} {F : List (Int × Int)} {m m' : jM} (ht : jTx t) (h : frx S F m m') (hs : ∀ p ∈ S, p = 8 ∨ p = 9 ∨ (t + 1 ≤ p ∧ p ≤ t + 7) ∨ p = t + 10) (hf : ∀ q ∈ F, q.1 = 1 ∨ (q.1 = t ∧ q.2 ≠ 0 ∧ q.2 ≠ 13 ∧ q.2 ≠ 16)) : rdU t m m' := by
  have tr := jTx_rng ht
  intro q i hq
  refine h q i (fun w => ?_) (fun w => ?_)
  · have := hs q w
    omega
  · have := hf _ w
    simp only at this
    omega
theorem rdU_row {t : Int} {m m' : jM} (h : rdU t m m') {q : Int} (hq : q ≠ 1 ∧ q ≠ 8 ∧ q ≠ 9 ∧ q ≠ t ∧ (q < t + 1 ∨ t + 7 < q) ∧ q ≠ t + 10) : m' q = m q := by
  funext i
  exact h q i (Or.inl hq)
theorem cTk_rd {K S W : Int → Int} {m m' : jM} {t : Int} (ht : jTx t) (h : cTk K S W m) (hf : rdU t m m') : cTk K S W m' := by
  have tr := jTx_rng ht
  refine cTk_fr h (fun q hq => rdU_row hf ?_)
  simp only [List.mem_cons, List.not_mem_nil, or_false] at hq
  omega
/-- syntax moved, meaning stays -/
theorem cMn_ps {V m m' : jM} {t : Int} (ht : jTx t) (h : cMn V t m) (hf : frx [] psF m m') : cMn V t m' := by
  have tr := jTx_rng ht
  refine ⟨vb_fr h.1 (fun q q0 q1 => frx_row hf q (by simp) (fun z hz => ?_)), cNm_fr h.2 (hf 1 8 (by decide) (by decide)) (hf 1 4 (by decide) (by decide)) (hf 1 5 (by decide) (by decide)) (frx_row hf 8 (by decide) (by decide)) (frx_row hf 9 (by decide) (by decide))⟩
  simp only [List.mem_cons, List.not_mem_nil, or_false] at hz
  rcases hz with rfl | rfl | rfl <;> simp only <;> omega
theorem cTk_ps {K S W : Int → Int} {m m' : jM} (h : cTk K S W m) (hf : frx [] psF m m') : cTk K S W m' := cTk_fr h (fun q hq => frx_row hf q (by simp) (fun z hz => by
  simp only [List.mem_cons, List.not_mem_nil, or_false] at hq hz
  rcases hz with rfl | rfl | rfl <;> simp only <;> omega))
theorem rdU_ps {t : Int} {m m' : jM} (ht : jTx t) (h : frx [] psF m m') : rdU t m m' := rdU_of ht h (by simp) (by simp)
/-- a take, with all that stays -/
theorem k_take {K S W : Int → Int} {V m0 m : jM} {Q : Int → jM → Prop} {P : Int × Int × Int} {k t : Int} (ht : jTx t) (hT : cTk K S W m) (hP : cPs P m) (hS : cMn V t m) (hf : rdU t m0 m) (hQ : ∀ m', rdU t m0 m' → cTk K S W m' → cPs (stq K S k P) m' → cMn V t m' → Q 0 m') : ML iX4_take [(2, 1), (0, k)] m Q :=
  c_take hT hP (fun m' f' P' => hQ m' (rdU_tr hf (rdU_ps ht f')) (cTk_ps hT f') P' (cMn_ps ht hS f'))
theorem k_room {K S W : Int → Int} {V m0 m : jM} {Q : Int → jM → Prop} {P : Int × Int × Int} {c b t : Int} (ht : jTx t) (hT : cTk K S W m) (hP : cPs P m) (hS : cMn V t m) (hf : rdU t m0 m) (hQ : ∀ m', rdU t m0 m' → cTk K S W m' → cPs (rmF S c b P) m' → cMn V t m' → Q 0 m') : ML iX4_needRoom [(2, 1), (0, c), (0, b)] m Q :=
  c_room hT hP (fun m' f' P' => hQ m' (rdU_tr hf (rdU_ps ht f')) (cTk_ps hT f') P' (cMn_ps ht hS f'))
theorem ltF_V {S : Int → Int} {n tok : Int} {V : jM} : (∀ j, j ≠ 11 → j ≠ 12 → ltF S n tok V 0 j = V 0 j) ∧ ∀ p, p ≠ 0 → ltF S n tok V p = V p := by
  unfold ltF
  split
  · exact ⟨fun _ _ _ => rfl, fun _ _ => rfl⟩
  · exact ⟨fun j h1 h2 => by rw [jup_self, if_neg h2, jup_self, if_neg h1], fun p hp => by rw [jup_ne hp, jup_ne hp]⟩
theorem smOk_V {V V' : jM} (h : smOk V) (h0 : ∀ j, 0 ≤ j → j ≤ 4 → V' 0 j = V 0 j) (h1 : V' 0 10 = V 0 10) : smOk V' := by
  unfold smOk at *
  rw [h0 0 (by decide) (by decide), h0 1 (by decide) (by decide), h0 2 (by decide) (by decide), h0 3 (by decide) (by decide), h0 4 (by decide) (by decide), h1]
  exact h
theorem cMn_lt {V V' m m' : jM} {t : Int} (ht : jTx t) (h : cMn V t m) (hf : frx [] ltK m m') (hN : cNm V' m') (h0 : ∀ j, j ≠ 11 → j ≠ 12 → V' 0 j = V 0 j) (h1 : ∀ p, p ≠ 0 → V' p = V p) : cMn V' t m' := by
  have tr := jTx_rng ht
  refine ⟨vb_V (vb_fr h.1 (fun q q0 q1 => frx_row hf q (by simp) (fun z hz => ?_))) (fun j j0 j1 => h0 j (by omega) (by omega)) (fun p p0 p1 => h1 p (by omega)), hN⟩
  simp only [List.mem_cons, List.not_mem_nil, or_false] at hz
  rcases hz with rfl | rfl <;> simp only <;> omega
theorem cTk_lt {K S W : Int → Int} {m m' : jM} (h : cTk K S W m) (hf : frx [] ltK m m') : cTk K S W m' := cTk_fr h (fun q hq => frx_row hf q (by simp) (fun z hz => by
  simp only [List.mem_cons, List.not_mem_nil, or_false] at hq hz
  rcases hz with rfl | rfl <;> simp only <;> omega))
theorem cPs_lt {P : Int × Int × Int} {m m' : jM} (h : cPs P m) (hf : frx [] ltK m m') : cPs P m' := cPs_fr h (hf 1 3 (by decide) (by decide)) (hf 1 0 (by decide) (by decide)) (hf 1 1 (by decide) (by decide))
theorem rdU_lt {t : Int} {m m' : jM} (ht : jTx t) (h : frx [] ltK m m') : rdU t m m' := rdU_of ht h (by simp) (by simp)
theorem plN_V {W S : Int → Int} {tok : Int} {V : jM} : (∀ j, j ≠ 11 → j ≠ 12 → (plN W S tok V).2 0 j = V 0 j) ∧ ∀ p, p ≠ 0 → (plN W S tok V).2 p = V p := by
  unfold plN
  split
  · exact ltF_V
  · split
    · exact ltF_V
    · exact ⟨fun _ _ _ => rfl, fun _ _ => rfl⟩
def wrF (S : Int → Int) (b : Prop) [Decidable b] (tok : Int) (V : jM) : jM := if b then ltF S 5 tok V else V
theorem wrF_V {S : Int → Int} {b : Prop} [Decidable b] {tok : Int} {V : jM} : (∀ j, j ≠ 11 → j ≠ 12 → wrF S b tok V 0 j = V 0 j) ∧ ∀ p, p ≠ 0 → wrF S b tok V p = V p := by
  unfold wrF
  split
  · exact ltF_V
  · exact ⟨fun _ _ _ => rfl, fun _ _ => rfl⟩
theorem k_wrong {K S W : Int → Int} {V m0 m : jM} {Q : Int → jM → Prop} {P : Int × Int × Int} {b tok t : Int} {B : Prop} [Decidable B] (ht : jTx t) (hT : cTk K S W m) (hP : cPs P m) (hS : cMn V t m) (hf : rdU t m0 m) (t0 : 0 ≤ tok) (t1 : tok ≤ 400) (hb : b ≠ 0 ↔ B) (hQ : ∀ m', rdU t m0 m' → cTk K S W m' → cPs P m' → cMn (wrF S B tok V) t m' → Q 0 m') : ML iX4_wrongIf [(2, 1), (0, b), (0, tok)] m Q := by
  refine c_wrongIf hT hS.2 t0 t1 (fun m' f' h' => hQ m' (rdU_tr hf (rdU_lt ht f')) (cTk_lt hT f') (cPs_lt hP f') (cMn_lt ht hS f' ?_ wrF_V.1 wrF_V.2))
  unfold wrF
  by_cases c : B
  · rw [if_pos c]
    rw [if_pos (hb.mpr c)] at h'
    exact h'
  · rw [if_neg c]
    rw [if_neg (fun w => c (hb.mp w))] at h'
    exact h'
theorem k_place {K S W : Int → Int} {V m0 m : jM} {Q : Int → jM → Prop} {P : Int × Int × Int} {tok t : Int} (ht : jTx t) (hT : cTk K S W m) (hP : cPs P m) (hS : cMn V t m) (hf : rdU t m0 m) (t0 : 0 ≤ tok) (t1 : tok ≤ 400) (hQ : ∀ m', rdU t m0 m' → cTk K S W m' → cPs P m' → cMn (plN W S tok V).2 t m' → Q (plN W S tok V).1 m') : ML iX4_placeNamed [(2, 1), (0, tok)] m Q :=
  c_placeNamed hT hS.2 t0 t1 (fun m' f' h' => hQ m' (rdU_tr hf (rdU_lt ht f')) (cTk_lt hT f') (cPs_lt hP f') (cMn_lt ht hS f' h' plN_V.1 plN_V.2))
theorem tlN_V {W S : Int → Int} {tok w : Int} {V : jM} : (∀ j, j ≠ 10 → j ≠ 11 → j ≠ 12 → tlN W S tok w V 0 j = V 0 j) ∧ (∀ p, p ≠ 0 → p ≠ 30 → p ≠ 31 → tlN W S tok w V p = V p) ∧ V 0 10 ≤ tlN W S tok w V 0 10 ∧ tlN W S tok w V 0 10 ≤ V 0 10 + 1 := by
  unfold tlN
  split
  · refine ⟨fun j h0 h1 h2 => ltF_V.1 j h1 h2, fun p h0 _ _ => ltF_V.2 p h0, ?_, ?_⟩
    · rw [ltF_V.1 10 (by decide) (by decide)]; exact Int.le_refl _
    · rw [ltF_V.1 10 (by decide) (by decide)]; omega
  · refine ⟨fun j h0 h1 h2 => by rw [jup_self, if_neg h0, jup_ne (by decide), jup_ne (by decide)], fun p h0 h1 h2 => by rw [jup_ne h0, jup_ne h2, jup_ne h1], ?_, ?_⟩
    · rw [jup_s]; omega
    · rw [jup_s]; omega
/-- a name told: one name more is allowed for -/
theorem k_name {K S W : Int → Int} {V m0 m : jM} {Q : Int → jM → Prop} {P : Int × Int × Int} {tok w t : Int} (ht : jTx t) (hT : cTk K S W m) (hP : cPs P m) (hS : cMn V t m) (hf : rdU t m0 m) (o : smOk V) (t0 : 0 ≤ tok) (t1 : tok ≤ 400) (hr : V 0 0 < 12 ∨ V 0 2 < 3 ∨ V 0 3 < 6) (hQ : ∀ m', rdU t m0 m' → cTk K S W m' → cPs P m' → cMn (tlN W S tok w V) t m' → Q 0 m') : ML iX4_tellName [(2, 1), (0, tok), (0, w)] m Q := by
  have tr := jTx_rng ht
  unfold smOk at o
  refine c_tellName hT hS.2 t0 t1 (by omega) (fun m' f' h' => ?_)
  have row : ∀ q, q ≠ 1 → q ≠ 8 → q ≠ 9 → m' q = m q := fun q h1 h8 h9 => frx_row f' q (by simp [h8, h9]) (fun z hz => by
    simp only [List.mem_cons, List.not_mem_nil, or_false] at hz
    rcases hz with rfl | rfl | rfl <;> exact fun w => h1 w.symm)
  refine hQ m' (rdU_tr hf (rdU_of ht f' (by simp) (by simp))) (cTk_fr hT (fun q hq => row q (by simp only [List.mem_cons, List.not_mem_nil, or_false] at hq; omega) (by simp only [List.mem_cons, List.not_mem_nil, or_false] at hq; omega) (by simp only [List.mem_cons, List.not_mem_nil, or_false] at hq; omega))) (cPs_fr hP (f' 1 3 (by decide) (by decide)) (f' 1 0 (by decide) (by decide)) (f' 1 1 (by decide) (by decide))) ⟨vb_V (vb_fr hS.1 (fun q q0 q1 => row q (by omega) (by omega) (by omega))) (fun j j0 j1 => tlN_V.1 j (by omega) (by omega) (by omega)) (fun p p0 p1 => tlN_V.2.1 p (by omega) (by omega) (by omega)), h'⟩

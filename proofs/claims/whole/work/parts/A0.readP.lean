/-! read: the reference's, both alike, the text told -/
theorem begin_up {m : jM} {k : Int} (h13 : m 139 13 = k) (k0 : 0 ≤ k) (k1 : k < 3) (h8 : m 139 8 = 0) (h9 : m 139 9 = -1) (h10 : m 139 10 = 0) {m' : jM} (e : m' = (jup (jup (jup (jup (jup (jup (jup (jup (jup (jup (jup (jup (jup (jup (jup m 146 (7 * k) 20) 146 (7 * k + 1) 45) 146 (7 * k + 2) 1000) 146 (7 * k + 3) 5) 146 (7 * k + 4) 30) 146 (7 * k + 5) 100) 146 (7 * k + 6) 2) 147 k 0) 148 k 0) 154 k 0) 157 k 0) 159 k 0) 162 k (500 * k)) 165 k (200 * k)) 139 41 0)) : rdT k m m' ∧ rMn V0 (cV V0) k m' ∧ rgI k V0 m' := by
  subst e
  have hc : cV V0 = 0 := rfl
  refine ⟨?_, ⟨⟨⟨k0, k1, ?_⟩, ⟨?_, ?_, ?_, ?_, ?_⟩, ?_, ?_, fun w => absurd (V0_0 11) w⟩, fun _ => ⟨⟨?_, fun i i0 i1 => ?_⟩, fun i i0 i1 => ?_, fun i i0 i1 => ?_, fun i i0 i1 => ?_, fun i i0 i1 => ?_⟩⟩, ⟨?_, ?_, ?_, fun r r0 r1 => ?_⟩⟩
  · refine rdT_up (rdT_up (rdT_up (rdT_up (rdT_up (rdT_up (rdT_up (rdT_up (rdT_up (rdT_up (rdT_up (rdT_up (rdT_up (rdT_up (rdT_up rdT_rf ?_) ?_) ?_) ?_) ?_) ?_) ?_) ?_) ?_) ?_) ?_) ?_) ?_) ?_) ?_ <;> (unfold okT; omega)
  · rw [jup_j (by decide), jup_ne (by decide), jup_ne (by decide), jup_ne (by decide), jup_ne (by decide), jup_ne (by decide), jup_ne (by decide), jup_ne (by decide), jup_ne (by decide), jup_ne (by decide), jup_ne (by decide), jup_ne (by decide), jup_ne (by decide), jup_ne (by decide), jup_ne (by decide)]; exact h13
  · rw [jup_ne (by decide), jup_ne (by decide), jup_ne (by decide), jup_ne (by decide), jup_ne (by decide), jup_ne (by decide), jup_ne (by decide), jup_s]; rfl
  · rw [jup_ne (by decide), jup_ne (by decide), jup_ne (by decide), jup_ne (by decide), jup_ne (by decide), jup_ne (by decide), jup_s]; rfl
  · rw [jup_ne (by decide), jup_ne (by decide), jup_ne (by decide), jup_ne (by decide), jup_ne (by decide), jup_s]; rfl
  · rw [jup_ne (by decide), jup_ne (by decide), jup_ne (by decide), jup_ne (by decide), jup_s]; rfl
  · rw [jup_ne (by decide), jup_ne (by decide), jup_ne (by decide), jup_s]; rfl
  · rw [jup_s, hc]; decide
  · rw [jup_j (by decide), jup_ne (by decide), jup_ne (by decide), jup_ne (by decide), jup_ne (by decide), jup_ne (by decide), jup_ne (by decide), jup_ne (by decide), jup_ne (by decide), jup_ne (by decide), jup_ne (by decide), jup_ne (by decide), jup_ne (by decide), jup_ne (by decide), jup_ne (by decide)]; exact h10
  · rw [jup_s]; rfl
  · rw [V0_0] at i1; omega
  · rw [V0_0] at i1; omega
  · rw [V0_0] at i1; omega
  · rw [V0_0] at i1; omega
  · rw [jup_ne (by decide), jup_ne (by decide), jup_ne (by decide), jup_ne (by decide), jup_ne (by decide), jup_ne (by decide), jup_ne (by decide), jup_ne (by decide), jup_self, jup_self, jup_self, jup_self, jup_self, jup_self, jup_self]
    show _ = uT i
    have c : i = 0 ∨ i = 1 ∨ i = 2 ∨ i = 3 ∨ i = 4 ∨ i = 5 ∨ i = 6 := by omega
    rcases c with rfl | rfl | rfl | rfl | rfl | rfl | rfl
    · rw [if_neg (by omega), if_neg (by omega), if_neg (by omega), if_neg (by omega), if_neg (by omega), if_neg (by omega), if_pos (by omega)]; rfl
    · rw [if_neg (by omega), if_neg (by omega), if_neg (by omega), if_neg (by omega), if_neg (by omega), if_pos (by omega)]; rfl
    · rw [if_neg (by omega), if_neg (by omega), if_neg (by omega), if_neg (by omega), if_pos (by omega)]; rfl
    · rw [if_neg (by omega), if_neg (by omega), if_neg (by omega), if_pos (by omega)]; rfl
    · rw [if_neg (by omega), if_neg (by omega), if_pos (by omega)]; rfl
    · rw [if_neg (by omega), if_pos (by omega)]; rfl
    · rw [if_pos (by omega)]; rfl
  · rw [jup_ne (by decide), jup_ne (by decide), jup_s, V0_0]; omega
  · rw [jup_ne (by decide), jup_s, jup_ne (by decide), jup_ne (by decide), jup_s]; omega
  · rw [V0_0, V0_0]; rfl
  · rw [V0_0] at r1; omega
/-- how read ends in the reference -/
def rFinR (S : Int → Int) (n k a : Int) (m : jM) (Y : (Int × Int × Int) × jM) (r : Int) (m' : jM) : Prop := (∀ q i, okT k q i → (q = 139 → i ≠ 0 ∧ i ≠ 12) → q ≠ 145 → m' q i = m q i) ∧ m' 139 0 = 0 ∧
  ((Y.1.2.1 ≠ 0 ∧ r = Y.1.2.1 ∧ m' 139 9 = Y.1.2.2 ∧ m' 139 12 = k ∧ m' 145 = m 145) ∨
   (Y.1.2.1 = 0 ∧ Y.2 0 11 ≠ 0 ∧ r = Y.2 0 11 ∧ m' 139 9 = Y.2 0 12 ∧ m' 139 12 = k ∧ m' 145 = m 145) ∨
   (Y.1.2.1 = 0 ∧ Y.2 0 11 = 0 ∧ r = 0 ∧ m' 139 9 = -1 ∧ m' 139 12 = k + 1 ∧ m' 145 k = a ∧ (∀ j, j ≠ k → m' 145 j = m 145 j) ∧ rMn Y.2 (cV Y.2) k m' ∧ rgI k Y.2 m' ∧ lwI S Y.1 Y.2 ∧ teI n Y.1 Y.2))
theorem c_readR {B K S W : Int → Int} {n a k : Int} {m : jM} {Q : Int → jM → Prop} (hb : rbI B m) (hN : tkN B K S W n) (ek : m 139 12 = k) (k0 : 0 ≤ k) (k1 : k ≤ 3) (hno : (k = 3 ∨ a < 0 ∨ 364 < a) → Q (-2) m) (hQ : ∀ r m', k < 3 → 0 ≤ a → a ≤ 364 → rFinR S n k a m (tlF K S W 401 (P0, V0)) r m' → Q r m') : ML iX11_read [(2, 139), (0, a)] m Q := by
  have kv := tkN_kI hN
  refine sX11_read ?_
  rw [ek]
  refine ⟨fun z => hno (Or.inl z), fun z => ⟨fun z1 => hno (Or.inr (Or.inl z1)), fun z1 => ⟨fun z2 => ?_, fun z2 => hno (Or.inr (Or.inr (by omega)))⟩⟩⟩
  have k3 : k < 3 := by omega
  refine c_scanAll hb hN (fun m1 f1 t1 => ?_)
  have r1 : rdT k m m1 := fun q i hq => f1 q i (fun w => by
    simp only [List.mem_cons, List.not_mem_nil, or_false] at w
    unfold okT at hq
    omega) (fun w => by
    simp only [List.mem_cons, List.not_mem_nil, or_false, Prod.mk.injEq] at w
    unfold okT at hq
    omega)
  have e12 : m1 139 12 = k := (r1 139 12 (by unfold okT; omega)).trans ek
  have a145 : m1 145 = m 145 := by funext i; exact r1 145 i (by unfold okT; omega)
  rw [e12]
  generalize hm2 : jup (jup (jup (jup m1 139 8 0) 139 9 (-1)) 139 10 0) 139 13 k = m2
  have r2 : rdT k m1 m2 := by
    rw [← hm2]
    refine rdT_up (rdT_up (rdT_up (rdT_up rdT_rf ?_) ?_) ?_) ?_ <;> (unfold okT; omega)
  have q8 : m2 139 8 = 0 := by rw [← hm2, jup_j (by decide), jup_j (by decide), jup_j (by decide), jup_s]
  have q9 : m2 139 9 = -1 := by rw [← hm2, jup_j (by decide), jup_j (by decide), jup_s]
  have q10 : m2 139 10 = 0 := by rw [← hm2, jup_j (by decide), jup_s]
  have q13 : m2 139 13 = k := by rw [← hm2, jup_s]
  refine sX11_begin ?_
  rw [jw_id (x := 7 * k) (by omega) (by omega), jw_id (x := 7 * k + 1) (by omega) (by omega), jw_id (x := 7 * k + 2) (by omega) (by omega), jw_id (x := 7 * k + 3) (by omega) (by omega), jw_id (x := 7 * k + 4) (by omega) (by omega), jw_id (x := 7 * k + 5) (by omega) (by omega), jw_id (x := 7 * k + 6) (by omega) (by omega), jw_id (x := 500 * k) (by omega) (by omega), jw_id (x := 200 * k) (by omega) (by omega)]
  refine ⟨by omega, by omega, by omega, by omega, by omega, by omega, by omega, by omega, by omega, by omega, by omega, by omega, by omega, by omega, by omega, by omega, by omega, by omega, by omega, by omega, by omega, by omega, by omega, by omega, by omega, by omega, by omega, by omega, ?_⟩
  generalize hm3 : jup (jup (jup (jup (jup (jup (jup (jup (jup (jup (jup (jup (jup (jup (jup m2 146 (7 * k) 20) 146 (7 * k + 1) 45) 146 (7 * k + 2) 1000) 146 (7 * k + 3) 5) 146 (7 * k + 4) 30) 146 (7 * k + 5) 100) 146 (7 * k + 6) 2) 147 k 0) 148 k 0) 154 k 0) 157 k 0) 159 k 0) 162 k (500 * k)) 165 k (200 * k)) 139 41 0 = m3
  obtain ⟨r3, M3, R3⟩ := begin_up q13 k0 k3 q8 q9 q10 hm3.symm
  have tr : ∀ q, 141 ≤ q → q ≤ 144 → m3 q = m1 q := fun q a b => by
    rw [← hm3, jup_ne (by omega), jup_ne (by omega), jup_ne (by omega), jup_ne (by omega), jup_ne (by omega), jup_ne (by omega), jup_ne (by omega), jup_ne (by omega), jup_ne (by omega), jup_ne (by omega), jup_ne (by omega), jup_ne (by omega), jup_ne (by omega), jup_ne (by omega), jup_ne (by omega), ← hm2, jup_ne (by omega), jup_ne (by omega), jup_ne (by omega), jup_ne (by omega)]
  have T3 : rTk K S W n m3 := by
    refine ⟨?_, kv.1, hN.1, hN.2.1⟩
    unfold tkM at t1 ⊢
    rw [tr 141 (by decide) (by decide), tr 142 (by decide) (by decide), tr 143 (by decide) (by decide), tr 144 (by decide) (by decide)]
    exact t1
  have s8 : m3 139 8 = 0 := by
    rw [← hm3, jup_j (by decide), jup_ne (by decide), jup_ne (by decide), jup_ne (by decide), jup_ne (by decide), jup_ne (by decide), jup_ne (by decide), jup_ne (by decide), jup_ne (by decide), jup_ne (by decide), jup_ne (by decide), jup_ne (by decide), jup_ne (by decide), jup_ne (by decide), jup_ne (by decide)]; exact q8
  have s9 : m3 139 9 = -1 := by
    rw [← hm3, jup_j (by decide), jup_ne (by decide), jup_ne (by decide), jup_ne (by decide), jup_ne (by decide), jup_ne (by decide), jup_ne (by decide), jup_ne (by decide), jup_ne (by decide), jup_ne (by decide), jup_ne (by decide), jup_ne (by decide), jup_ne (by decide), jup_ne (by decide), jup_ne (by decide)]; exact q9
  have r03 : rdT k m m3 := rdT_tr (rdT_tr r1 r2) r3
  refine c_parses (P := P0) (V := V0) kv.2 rfl rfl T3 s8 s9 M3 R3 (teI_V0 hN.1) lwI_V0 (fun r m' o => ?_)
  generalize tlF K S W 401 (P0, V0) = Y at o hQ
  obtain ⟨o1, o2, o3⟩ := o
  have rr : rdT k m m' := rdT_tr r03 o1
  have g12 : m' 139 12 = k := (rr 139 12 (by unfold okT; omega)).trans ek
  have g145 : m' 145 = m 145 := by funext i; exact rr 145 i (by unfold okT; omega)
  have hfr : ∀ mm : jM, (∀ q, q ≠ 139 → q ≠ 145 → mm q = m' q) → (∀ i, i ≠ 0 → i ≠ 8 → i ≠ 9 → i ≠ 12 → mm 139 i = m' 139 i) → ∀ q i, okT k q i → (q = 139 → i ≠ 0 ∧ i ≠ 12) → q ≠ 145 → mm q i = m q i := by
    intro mm h1 h2 q i hq hi h145
    by_cases c : q = 139
    · subst c
      have := hi rfl
      rw [h2 i this.1 (by unfold okT at hq; omega) (by unfold okT at hq; omega) this.2]
      exact rr _ i hq
    · rw [h1 q c h145]
      exact rr q i hq
  rcases o3 with ⟨e, w⟩ | ⟨e, w, oM, oR, oL, oT⟩
  · subst e
    have n8 : m' 139 8 ≠ 0 := by rw [o2.2.2.1]; exact w
    refine ⟨fun _ => ⟨fun z => absurd z n8, fun _ => ?_⟩, fun z => absurd rfl z⟩
    refine hQ _ _ k3 (by omega) z2 ⟨hfr _ (fun q h1 h2 => jup_ne h1) (fun i h0 h8 h9 h12 => jup_j h0), jup_s, Or.inl ⟨w, o2.2.2.1, ?_, ?_, ?_⟩⟩
    · rw [jup_j (by decide)]; exact o2.2.2.2.1 w
    · rw [jup_j (by decide)]; exact g12
    · rw [jup_ne (by decide)]; exact g145
  · subst e
    have n8 : m' 139 8 = 0 := o2.2.2.1.trans w
    have w11 : m' 139 10 = Y.2 0 11 := oM.1.2.2.2.1
    refine ⟨fun z => absurd z (by decide), fun _ => ⟨fun z => ⟨fun _ => ?_, fun z8 => absurd n8 z8⟩, fun z => ⟨fun z' => absurd z' z, fun _ => ?_⟩⟩⟩
    · rw [g12, jw_id (x := k + 1) (by omega) (by omega)]
      have y11 : Y.2 0 11 = 0 := by rw [← w11]; exact z
      refine ⟨k0, k3, hQ _ _ k3 (by omega) z2 ⟨hfr _ (fun q h1 h2 => by rw [jup_ne h1, jup_ne h2, jup_ne h1]) (fun i h0 h8 h9 h12 => by rw [jup_j h12, jup_ne (by decide), jup_j h0]), by rw [jup_j (by decide), jup_ne (by decide), jup_s], Or.inr (Or.inr ⟨w, y11, rfl, ?_, jup_s, ?_, fun j hj => ?_, ?_, ?_, oL, oT⟩)⟩⟩
      · rw [jup_j (by decide), jup_ne (by decide), jup_j (by decide)]; exact o2.2.2.2.2 w
      · rw [jup_ne (by decide), jup_s]
      · rw [jup_ne (by decide), jup_j hj, jup_ne (by decide), g145]
      · exact rMn_cg oM (fun q hq => by rw [jup_ne (by omega), jup_ne (by omega), jup_ne (by omega)]) (fun i hi => by rw [jup_j (by omega), jup_ne (by decide), jup_j (by omega)])
      · exact rgI_cg oR (fun q q0 q1 => by rw [jup_ne (by omega), jup_ne (by omega), jup_ne (by omega)]) cdK_rf
    · have y11 : Y.2 0 11 ≠ 0 := by rw [← w11]; exact z
      refine hQ _ _ k3 (by omega) z2 ⟨hfr _ (fun q h1 h2 => by rw [jup_ne h1, jup_ne h1, jup_ne h1]) (fun i h0 h8 h9 h12 => by rw [jup_j h0, jup_j h9, jup_j h8]), by rw [jup_s], Or.inr (Or.inl ⟨w, y11, w11, ?_, ?_, ?_⟩)⟩
      · rw [jup_j (by decide), jup_s]; exact oM.1.2.2.2.2 y11
      · rw [jup_j (by decide), jup_j (by decide), jup_j (by decide)]; exact g12
      · rw [jup_ne (by decide), jup_ne (by decide), jup_ne (by decide)]; exact g145
/-! the text told, as both hold it -/
theorem cOk_cg {f g : Int → Int} {a b : Int} (h : cOk f a b) (hf : ∀ i, a ≤ i → i < b → g i = f i) : cOk g a b := by
  obtain ⟨h0, h1, h2, h3⟩ := h
  refine ⟨h0, h1, h2, fun x j j0 j1 => ?_⟩
  rw [cEv_cg (g := f) j (fun i i0 i1 => hf i i0 (by omega)), hf (a + j) (by omega) j1]
  exact h3 x j j0 j1
def ptE (V V' : jM) : Prop := (∀ j, 0 ≤ j → j ≤ 4 → V' 0 j = V 0 j) ∧ (∀ i, 0 ≤ i → i < V 0 1 → V' 1 i = V 1 i ∧ V' 2 i = V 2 i ∧ V' 3 i = V 3 i ∧ V' 4 i = V 4 i ∧ V' 5 i = V 5 i) ∧ (∀ i, 0 ≤ i → i < V 0 2 → V' 6 i = V 6 i ∧ V' 7 i = V 7 i) ∧ (∀ i, 0 ≤ i → i < V 0 3 → V' 8 i = V 8 i) ∧ ∀ i, 0 ≤ i → i < 7 → V' 9 i = V 9 i
theorem vKt_pt {V V' : jM} (h : vKt V) (e : ptE V V') : vKt V' := by
  obtain ⟨e0, e1, e2, e3, e4⟩ := e
  obtain ⟨h1, h2, h3, h4, h5⟩ := h
  refine ⟨?_, fun i i0 i1 => ?_, fun i i0 i1 => ?_, fun i i0 i1 => ?_, fun i i0 i1 => ?_⟩
  · rw [e0 0 (by decide) (by decide), e0 1 (by decide) (by decide), e0 2 (by decide) (by decide), e0 3 (by decide) (by decide), e0 4 (by decide) (by decide)]; exact h1
  · rw [e0 1 (by decide) (by decide)] at i1
    have q := e1 i i0 i1
    rw [q.1, q.2.1, q.2.2.1, q.2.2.2.1, q.2.2.2.2, e0 0 (by decide) (by decide)]
    exact h2 i i0 i1
  · rw [e0 2 (by decide) (by decide)] at i1
    have q := e2 i i0 i1
    rw [q.1, q.2, e0 0 (by decide) (by decide)]
    exact h3 i i0 i1
  · rw [e0 3 (by decide) (by decide)] at i1
    rw [e3 i i0 i1, e0 0 (by decide) (by decide)]
    exact h4 i i0 i1
  · rw [e4 i i0 i1]; exact h5 i i0 i1
theorem vCt_pt {V V' m : jM} {t : Int} (h : vCt V t m) (e : ptE V V') : vCt V' t m := by
  obtain ⟨e0, e1, e2, e3, e4⟩ := e
  obtain ⟨ht, h1, h2, hb, h3, h4, h5⟩ := h
  refine ⟨ht, ?_, fun i i0 i1 => ?_, hb, fun i i0 i1 => ?_, fun i i0 i1 => ?_, fun i i0 i1 => ?_⟩
  · rw [e0 0 (by decide) (by decide), e0 1 (by decide) (by decide), e0 2 (by decide) (by decide), e0 3 (by decide) (by decide), e0 4 (by decide) (by decide)]; exact h1
  · rw [e0 1 (by decide) (by decide)] at i1
    have q := e1 i i0 i1
    rw [q.1, q.2.1, q.2.2.1, q.2.2.2.1, q.2.2.2.2]
    exact h2 i i0 i1
  · rw [e0 2 (by decide) (by decide)] at i1
    have q := e2 i i0 i1
    rw [q.1, q.2]
    exact h3 i i0 i1
  · rw [e0 3 (by decide) (by decide)] at i1
    rw [e3 i i0 i1]
    exact h4 i i0 i1
  · rw [e4 i i0 i1]; exact h5 i i0 i1
theorem ptE_vw {V m : jM} {c k : Int} (h : rMn V c k m) (z : V 0 11 = 0) (o : smOk V) : ptE V (vw m k 0 0) := by
  obtain ⟨⟨h1, h2, h3, h4, h5⟩, hr⟩ := h
  obtain ⟨-, r1, r2, r3, r4⟩ := hr z
  obtain ⟨o1, o2, o3, o4, o5, o6, o7, o8, o9, o10, o11⟩ := o
  refine ⟨fun j j0 j1 => ?_, fun i i0 i1 => ?_, fun i i0 i1 => ?_, fun i i0 i1 => ?_, fun i i0 i1 => ?_⟩
  · have c : j = 0 ∨ j = 1 ∨ j = 2 ∨ j = 3 ∨ j = 4 := by omega
    rcases c with rfl | rfl | rfl | rfl | rfl
    · exact h2.1
    · exact h2.2.1
    · exact h2.2.2.1
    · exact h2.2.2.2.1
    · exact h2.2.2.2.2
  · have q := r1 i i0 i1
    have i2 : i < 24 := by omega
    exact ⟨(cut_in (f := fun i => m 149 (24 * k + i)) i0 i2).trans q.1, (cut_in (f := fun i => m 150 (24 * k + i)) i0 i2).trans q.2.1, (cut_in (f := fun i => m 151 (24 * k + i)) i0 i2).trans q.2.2.1, (cut_in (f := fun i => m 152 (24 * k + i)) i0 i2).trans q.2.2.2.1, (cut_in (f := fun i => m 153 (24 * k + i)) i0 i2).trans q.2.2.2.2⟩
  · have q := r2 i i0 i1
    have i2 : i < 3 := by omega
    exact ⟨(cut_in (f := fun i => m 155 (3 * k + i)) i0 i2).trans q.1, (cut_in (f := fun i => m 156 (3 * k + i)) i0 i2).trans q.2⟩
  · have i2 : i < 6 := by omega
    exact (cut_in (f := fun i => m 158 (6 * k + i)) i0 i2).trans (r3 i i0 i1)
  · exact (cut_in (f := fun i => m 146 (7 * k + i)) i0 i1).trans (r4 i i0 i1)
theorem tx_new {V m : jM} {c k t : Int} (hM : rMn V c k m) (z : V 0 11 = 0) (o : smOk V) (hk : vKt V) (hR : rgI k V m) (hC : vCt V t m) (hD : cCd V t m) : vKt (vw m k 0 0) ∧ vKd (vw m k 0 0) ∧ vCt (vw m k 0 0) t m ∧ cdR (vw m k 0 0) t m := by
  have e := ptE_vw hM z o
  have e4 : vw m k 0 0 0 4 = V 0 4 := e.1 4 (by decide) (by decide)
  obtain ⟨g1, g2, g3, g4⟩ := hR
  obtain ⟨d1, d2, d3, d4⟩ := hD
  refine ⟨vKt_pt hk e, fun r r0 r1 => ?_, vCt_pt hC e, fun r r0 r1 => ?_⟩
  · rw [e4] at r1
    obtain ⟨a1, a2, a3, a4, a5⟩ := g4 r r0 r1
    exact ⟨a3.1, a3.2.1, by omega, fun i i0 i1 => (a4 i i0 i1).1⟩
  · rw [e4] at r1
    obtain ⟨a1, a2, a3, a4, a5⟩ := g4 r r0 r1
    have es : cdSt t m r = rgS V r := by
      unfold cdSt rgS
      by_cases c : r = 0
      · rw [if_pos c, if_pos c]
      · rw [if_neg c, if_neg c, d4 (r - 1) (by omega) (by omega)]
    rw [es, d4 r r0 r1]
    refine ⟨cOk_cg a2 (fun i i0 i1 => d3 i (by omega) (by omega)), fun x => ?_⟩
    rw [cEv_cg (g := V 32) _ (fun i i0 i1 => d3 i (by omega) (by omega))]
    exact a5 x

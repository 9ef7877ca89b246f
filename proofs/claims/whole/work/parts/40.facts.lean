/-! what is told: facts -/
theorem v_if {c A B : Prop} (h1 : c → A) (h2 : ¬ c → B) : (c → A) ∧ (¬ c → B) := ⟨h1, h2⟩
theorem v_bd {i n : Int} {A : Prop} (h0 : 0 ≤ i) (h1 : i < n) (h : A) : 0 ≤ i ∧ i < n ∧ A := ⟨h0, h1, h⟩
theorem v_b0 {A : Prop} (h : A) : ((0 : Int) = 0 ∨ (0 : Int) = 1) ∧ A := ⟨Or.inl rfl, h⟩
theorem v_b1 {A : Prop} (h : A) : ((1 : Int) = 0 ∨ (1 : Int) = 1) ∧ A := ⟨Or.inr rfl, h⟩
/-- one fact as it must be -/
def fcVal (N : Int) (F : Int → Int) (i k a b c e : Int) : Prop := (k = 0 ∧ 0 ≤ a ∧ a < 12 ∧ 0 ≤ b ∧ b < 3 ∧ 0 ≤ c ∧ c < 13 ∧ 0 ≤ e ∧ e < 4) ∨ ((k = 1 ∨ k = 2) ∧ 0 ≤ a ∧ a < N ∧ 0 ≤ b ∧ b < 12 ∧ 0 ≤ c ∧ c < 365) ∨ (k = 3 ∧ 0 ≤ a ∧ a < 24 ∧ 0 ≤ b ∧ b ≤ c ∧ c < 365) ∨ (k = 4 ∧ 0 ≤ a ∧ a < N ∧ 0 ≤ b ∧ b < N ∧ F a < i ∧ F b < i) ∨ (k = 5 ∧ 0 ≤ a ∧ a < N ∧ 0 ≤ b ∧ b < 6 ∧ 0 ≤ c ∧ c < 365 ∧ 0 ≤ e ∧ e < 1440) ∨ (k = 6 ∧ 0 ≤ a ∧ a < i)
/-- no void of the fact is known by n -/
def fcLive (K A : Int → Int) (i n : Int) : Prop := ∀ j, i < j → j < n → ¬ (K j = 6 ∧ A j = i)
def fcK (d : jM) : Prop := (0 ≤ d 139 44 ∧ d 139 44 ≤ 100 ∧ 0 ≤ d 139 50 ∧ d 139 50 ≤ 20) ∧ (∀ i, 0 ≤ i → i < d 139 44 → fcVal (d 139 50) (d 179) i (d 174 i) (d 175 i) (d 176 i) (d 177 i) (d 178 i)) ∧ (∀ c, 0 ≤ c → c < d 139 50 → 0 ≤ d 179 c ∧ d 179 c < d 139 44 ∧ d 174 (d 179 c) = 0) ∧ ∀ c c', 0 ≤ c → c < c' → c' < d 139 50 → d 179 c < d 179 c'
def fcC (d m : jM) : Prop := m 13 0 = d 139 44 ∧ m 13 1 = d 139 50 ∧ (∀ i, 0 ≤ i → i < d 139 44 → m 19 i = d 174 i ∧ m 14 i = d 175 i ∧ m 15 i = d 176 i ∧ m 16 i = d 177 i ∧ m 17 i = d 178 i) ∧ (∀ i n, 0 ≤ i → i < d 139 44 → n ≤ d 139 44 → (n ≤ m 20 i ↔ fcLive (d 174) (d 175) i n)) ∧ (∀ c, 0 ≤ c → c < d 139 50 → m 18 c = d 179 c) ∧ ∀ i, 0 ≤ i → i < d 139 44 → m 20 i = 100 ∨ (0 ≤ m 20 i ∧ m 20 i < d 139 44)
def fcInv (m : jM) : Prop := fcK m ∧ fcC m m
abbrev fcDp : List Int := [13, 14, 15, 16, 17, 18, 19, 20, 174, 175, 176, 177, 178, 179]
abbrev fcDf : List (Int × Int) := [(139, 44), (139, 50)]
theorem fcInv_cg {m m' : jM} (h : agr fcDp fcDf m m') (hx : fcInv m) : fcInv m' := by
  unfold fcInv fcK fcC at *
  rw [agr_row h 13 (by decide), agr_row h 14 (by decide), agr_row h 15 (by decide), agr_row h 16 (by decide), agr_row h 17 (by decide), agr_row h 18 (by decide), agr_row h 19 (by decide), agr_row h 20 (by decide), agr_row h 174 (by decide), agr_row h 175 (by decide), agr_row h 176 (by decide), agr_row h 177 (by decide), agr_row h 178 (by decide), agr_row h 179 (by decide), agr_at h 139 44 (by decide), agr_at h 139 50 (by decide)]
  exact hx
/-- a fact more in the class -/
def fcAC (m m1 : jM) (k a b c e : Int) : Prop := m1 13 0 = m 13 0 + 1 ∧ (∀ i, m1 19 i = if i = m 13 0 then k else m 19 i) ∧ (∀ i, m1 14 i = if i = m 13 0 then a else m 14 i) ∧ (∀ i, m1 15 i = if i = m 13 0 then b else m 15 i) ∧ (∀ i, m1 16 i = if i = m 13 0 then c else m 16 i) ∧ (∀ i, m1 17 i = if i = m 13 0 then e else m 17 i) ∧ (∀ i, m1 20 i = if i = m 13 0 then 100 else m 20 i) ∧ frx [19, 14, 15, 16, 17, 20] [(13, 0)] m m1
/-- a fact more in the reference -/
def fcAR (m m1 : jM) (k a b c e : Int) : Prop := m1 139 44 = m 139 44 + 1 ∧ (∀ i, m1 174 i = if i = m 139 44 then k else m 174 i) ∧ (∀ i, m1 175 i = if i = m 139 44 then a else m 175 i) ∧ (∀ i, m1 176 i = if i = m 139 44 then b else m 176 i) ∧ (∀ i, m1 177 i = if i = m 139 44 then c else m 177 i) ∧ (∀ i, m1 178 i = if i = m 139 44 then e else m 178 i) ∧ frx [174, 175, 176, 177, 178] [(139, 44)] m m1
theorem c_add {m : jM} {Q : Int → jM → Prop} {k a b c e : Int} (h0 : 0 ≤ m 13 0) (hno : ¬ m 13 0 < 100 → Q (-1) m) (hQ : ∀ m1, m 13 0 < 100 → fcAC m m1 k a b c e → Q (m 13 0) m1) : ML iX1_add [(2, 13), (0, k), (0, a), (0, b), (0, c), (0, e)] m Q := by
  refine sX1_add ⟨fun q => ⟨h0, q, h0, q, h0, q, h0, q, h0, q, h0, q, ?_⟩, hno⟩
  rw [jw_id (x := m 13 0 + 1) (by omega) (by omega), jw_id (by omega) (by omega), show m 13 0 + 1 - 1 = m 13 0 by omega]
  refine hQ _ q ⟨rfl, fun i => ?_, fun i => ?_, fun i => ?_, fun i => ?_, fun i => ?_, fun i => ?_, frx_upF (frx_upA (frx_upA (frx_upA (frx_upA (frx_upA (frx_upA frx_rf (by decide)) (by decide)) (by decide)) (by decide)) (by decide)) (by decide)) (by decide)⟩ <;> simp [jup]
theorem c_fact {m : jM} {Q : Int → jM → Prop} {k a b c e : Int} (h0 : 0 ≤ m 139 44 ∧ m 139 44 ≤ 100) (hno : m 139 44 = 100 → Q (-1) m) (hQ : ∀ m1, m 139 44 < 100 → fcAR m m1 k a b c e → Q (m 139 44) m1) : ML iX11_fact [(2, 139), (0, k), (0, a), (0, b), (0, c), (0, e)] m Q := by
  refine sX11_fact ⟨fun q => ⟨h0.1, by omega, h0.1, by omega, h0.1, by omega, h0.1, by omega, h0.1, by omega, ?_⟩, fun q => hno (Classical.byContradiction q)⟩
  rw [jw_id (x := m 139 44 + 1) (by omega) (by omega), jw_id (by omega) (by omega), show m 139 44 + 1 - 1 = m 139 44 by omega]
  refine hQ _ (by omega) ⟨rfl, fun i => ?_, fun i => ?_, fun i => ?_, fun i => ?_, fun i => ?_, frx_upF (frx_upA (frx_upA (frx_upA (frx_upA (frx_upA frx_rf (by decide)) (by decide)) (by decide)) (by decide)) (by decide)) (by decide)⟩ <;> simp [jup]
theorem fcVal_mono {N N' : Int} {F F' : Int → Int} {i k a b c e : Int} (h : fcVal N F i k a b c e) (hN : N ≤ N') (hF : ∀ x, 0 ≤ x → x < N → F' x = F x) : fcVal N' F' i k a b c e := by
  unfold fcVal at *
  rcases h with h | h | h | h | h | h
  · exact Or.inl h
  · exact Or.inr (Or.inl (by omega))
  · exact Or.inr (Or.inr (Or.inl h))
  · refine Or.inr (Or.inr (Or.inr (Or.inl ?_)))
    rw [hF a (by omega) (by omega), hF b (by omega) (by omega)]
    omega
  · exact Or.inr (Or.inr (Or.inr (Or.inr (Or.inl (by omega)))))
  · exact Or.inr (Or.inr (Or.inr (Or.inr (Or.inr h))))
/-- facts only came behind -/
def fcBe (m m2 : jM) : Prop := m 139 44 ≤ m2 139 44 ∧ m 139 50 ≤ m2 139 50 ∧ (∀ i, 0 ≤ i → i < m 139 44 → m2 174 i = m 174 i ∧ m2 175 i = m 175 i ∧ m2 176 i = m 176 i ∧ m2 177 i = m 177 i ∧ m2 178 i = m 178 i) ∧ (∀ c, 0 ≤ c → c < m 139 50 → m2 179 c = m 179 c) ∧ ∀ c, m 139 50 ≤ c → c < m2 139 50 → m 139 44 ≤ m2 179 c
def fcIn (m m2 : jM) : Prop := fcInv m2 ∧ fcBe m m2
theorem fcIn_rf {m : jM} (h : fcInv m) : fcIn m m := ⟨h, Int.le_refl _, Int.le_refl _, fun _ _ _ => ⟨rfl, rfl, rfl, rfl, rfl⟩, fun _ _ _ => rfl, fun c c0 c1 => absurd c0 (by omega)⟩
/-- both have a fact more; nc: it is a child -/
theorem fcInv_put0 {m m2 : jM} {k a b c e : Int} (h : fcInv m) (hT : m 139 44 < 100)
    (c0 : m2 13 0 = m 139 44 + 1) (c1 : ∀ i, m2 19 i = if i = m 139 44 then k else m 19 i) (c2 : ∀ i, m2 14 i = if i = m 139 44 then a else m 14 i) (c3 : ∀ i, m2 15 i = if i = m 139 44 then b else m 15 i) (c4 : ∀ i, m2 16 i = if i = m 139 44 then c else m 16 i) (c5 : ∀ i, m2 17 i = if i = m 139 44 then e else m 17 i)
    (cv : ∀ i, m2 20 i = if i = m 139 44 then 100 else if k = 6 ∧ i = a then min (m 20 i) (m 139 44) else m 20 i)
    (r0 : m2 139 44 = m 139 44 + 1) (r1 : ∀ i, m2 174 i = if i = m 139 44 then k else m 174 i) (r2 : ∀ i, m2 175 i = if i = m 139 44 then a else m 175 i) (r3 : ∀ i, m2 176 i = if i = m 139 44 then b else m 176 i) (r4 : ∀ i, m2 177 i = if i = m 139 44 then c else m 177 i) (r5 : ∀ i, m2 178 i = if i = m 139 44 then e else m 178 i)
    (hc : m2 13 1 = m2 139 50) (hch : (k ≠ 0 ∧ m2 139 50 = m 139 50 ∧ (∀ x, m2 179 x = m 179 x) ∧ ∀ x, m2 18 x = m 18 x) ∨ (k = 0 ∧ m 139 50 < 20 ∧ m2 139 50 = m 139 50 + 1 ∧ (∀ x, m2 179 x = if x = m 139 50 then m 139 44 else m 179 x) ∧ ∀ x, m2 18 x = if x = m 139 50 then m 139 44 else m 18 x))
    (hv : fcVal (m 139 50) (m 179) (m 139 44) k a b c e) : fcInv m2 := by
  obtain ⟨⟨⟨t0, t1, n0, n1⟩, hV, hF, hI⟩, q0, q1, q2, q3, q4, q5⟩ := h
  have e1 : m2 13 1 = m2 139 50 := hc
  have hN : m 139 50 ≤ m2 139 50 ∧ m2 139 50 ≤ 20 := by rcases hch with z | z <;> omega
  have hF2 : ∀ x, 0 ≤ x → x < m 139 50 → m2 179 x = m 179 x := by
    intro x x0 x1
    rcases hch with z | z
    · exact z.2.2.1 x
    · rw [z.2.2.2.1 x, if_neg (by omega)]
  have hFn : ∀ x, 0 ≤ x → x < m2 139 50 → ¬ x < m 139 50 → k = 0 ∧ x = m 139 50 ∧ m2 179 x = m 139 44 ∧ m2 18 x = m 139 44 := by
    intro x x0 x1 x2
    rcases hch with z | z
    · omega
    · have ex : x = m 139 50 := by omega
      exact ⟨z.1, ex, by rw [z.2.2.2.1 x, if_pos ex], by rw [z.2.2.2.2 x, if_pos ex]⟩
  refine ⟨⟨⟨by omega, by omega, by omega, by omega⟩, fun i i0 i1 => ?_, fun x x0 x1 => ?_, fun x x' x0 x1 x2 => ?_⟩, by omega, by omega, fun i i0 i1 => ?_, fun i n i0 i1 hn => ?_, fun x x0 x1 => ?_, fun i i0 i1 => ?_⟩
  · rw [r1, r2, r3, r4, r5]
    by_cases z : i = m 139 44
    · rw [if_pos z, if_pos z, if_pos z, if_pos z, if_pos z, z]
      exact fcVal_mono hv hN.1 hF2
    · rw [if_neg z, if_neg z, if_neg z, if_neg z, if_neg z]
      exact fcVal_mono (hV i i0 (by omega)) hN.1 hF2
  · by_cases z : x < m 139 50
    · have := hF x x0 z
      rw [hF2 x x0 z, r1, if_neg (by omega)]
      omega
    · have := hFn x x0 x1 z
      rw [this.2.2.1, r1, if_pos rfl]
      omega
  · by_cases z : x' < m 139 50
    · rw [hF2 x x0 (by omega), hF2 x' (by omega) z]
      exact hI x x' x0 x1 z
    · have h1 := hFn x' (by omega) x2 z
      have h2 := hF x x0 (by omega)
      rw [hF2 x x0 (by omega), h1.2.2.1]
      omega
  · rw [r1, r2, r3, r4, r5, c1, c2, c3, c4, c5]
    by_cases z : i = m 139 44
    · rw [if_pos z, if_pos z, if_pos z, if_pos z, if_pos z, if_pos z, if_pos z, if_pos z, if_pos z, if_pos z]
      exact ⟨rfl, rfl, rfl, rfl, rfl⟩
    · rw [if_neg z, if_neg z, if_neg z, if_neg z, if_neg z, if_neg z, if_neg z, if_neg z, if_neg z, if_neg z]
      exact q2 i i0 (by omega)
  · have hl : fcLive (m2 174) (m2 175) i n ↔ (fcLive (m 174) (m 175) i (min n (m 139 44)) ∧ (i < m 139 44 → m 139 44 < n → ¬ (k = 6 ∧ a = i))) := by
      unfold fcLive
      constructor
      · intro g
        refine ⟨fun j j0 j1 => ?_, fun g0 g1 => ?_⟩
        · have := g j j0 (by omega)
          rw [r1, r2, if_neg (by omega), if_neg (by omega)] at this
          exact this
        · have := g (m 139 44) g0 g1
          rw [r1, r2, if_pos rfl, if_pos rfl] at this
          exact this
      · rintro ⟨g0, g1⟩ j j0 j1
        rw [r1, r2]
        by_cases z : j = m 139 44
        · rw [if_pos z, if_pos z]
          exact g1 (by omega) (by omega)
        · rw [if_neg z, if_neg z]
          exact g0 j j0 (by omega)
    rw [hl, cv]
    by_cases z : i = m 139 44
    · rw [if_pos z]
      refine ⟨fun _ => ⟨fun j j0 j1 => absurd j1 (by omega), fun g => absurd g (by omega)⟩, fun _ => by omega⟩
    · rw [if_neg z]
      have q := q3 i (min n (m 139 44)) i0 (by omega) (by omega)
      rw [← q]
      have qT := q3 i (m 139 44) i0 (by omega) (by omega)
      have hup : m 139 44 ≤ m 20 i ∨ m 20 i < m 139 44 := by omega
      by_cases zz : k = 6 ∧ i = a
      · rw [if_pos zz]
        constructor
        · intro g
          exact ⟨by omega, fun _ g2 => by omega⟩
        · rintro ⟨g1, g2⟩
          have : ¬ m 139 44 < n := fun y => g2 (by omega) y ⟨zz.1, zz.2.symm⟩
          omega
      · rw [if_neg zz]
        constructor
        · intro g
          exact ⟨by omega, fun _ _ y => zz ⟨y.1, y.2.symm⟩⟩
        · rintro ⟨g1, -⟩
          have := q5 i i0 (by omega)
          omega
  · by_cases z : x < m 139 50
    · rw [hF2 x x0 z]
      rcases hch with y | y
      · rw [y.2.2.2 x]
        exact q4 x x0 z
      · rw [y.2.2.2.2 x, if_neg (by omega)]
        exact q4 x x0 z
    · have := hFn x x0 x1 z
      rw [this.2.2.1, this.2.2.2]
  · rw [cv]
    by_cases z : i = m 139 44
    · rw [if_pos z]
      exact Or.inl rfl
    · rw [if_neg z]
      have := q5 i i0 (by omega)
      split <;> omega
theorem fcInv_put {m m2 : jM} {k a b c e : Int} (h : fcInv m) (hT : m 139 44 < 100)
    (c0 : m2 13 0 = m 139 44 + 1) (c1 : ∀ i, m2 19 i = if i = m 139 44 then k else m 19 i) (c2 : ∀ i, m2 14 i = if i = m 139 44 then a else m 14 i) (c3 : ∀ i, m2 15 i = if i = m 139 44 then b else m 15 i) (c4 : ∀ i, m2 16 i = if i = m 139 44 then c else m 16 i) (c5 : ∀ i, m2 17 i = if i = m 139 44 then e else m 17 i)
    (cv : ∀ i, m2 20 i = if i = m 139 44 then 100 else if k = 6 ∧ i = a then min (m 20 i) (m 139 44) else m 20 i)
    (r0 : m2 139 44 = m 139 44 + 1) (r1 : ∀ i, m2 174 i = if i = m 139 44 then k else m 174 i) (r2 : ∀ i, m2 175 i = if i = m 139 44 then a else m 175 i) (r3 : ∀ i, m2 176 i = if i = m 139 44 then b else m 176 i) (r4 : ∀ i, m2 177 i = if i = m 139 44 then c else m 177 i) (r5 : ∀ i, m2 178 i = if i = m 139 44 then e else m 178 i)
    (hc : m2 13 1 = m2 139 50) (hch : (k ≠ 0 ∧ m2 139 50 = m 139 50 ∧ (∀ x, m2 179 x = m 179 x) ∧ ∀ x, m2 18 x = m 18 x) ∨ (k = 0 ∧ m 139 50 < 20 ∧ m2 139 50 = m 139 50 + 1 ∧ (∀ x, m2 179 x = if x = m 139 50 then m 139 44 else m 179 x) ∧ ∀ x, m2 18 x = if x = m 139 50 then m 139 44 else m 18 x))
    (hv : fcVal (m 139 50) (m 179) (m 139 44) k a b c e) : fcIn m m2 := by
  refine ⟨fcInv_put0 h hT c0 c1 c2 c3 c4 c5 cv r0 r1 r2 r3 r4 r5 hc hch hv, by omega, by rcases hch with z | z <;> omega, fun i i0 i1 => ?_, fun x x0 x1 => ?_, fun x x0 x1 => ?_⟩
  · rw [r1, r2, r3, r4, r5, if_neg (by omega), if_neg (by omega), if_neg (by omega), if_neg (by omega), if_neg (by omega)]
    exact ⟨rfl, rfl, rfl, rfl, rfl⟩
  · rcases hch with z | z
    · exact z.2.2.1 x
    · rw [z.2.2.2.1 x, if_neg (by omega)]
  · rcases hch with z | z
    · omega
    · rw [z.2.2.2.1 x, if_pos (by omega)]
      exact Int.le_refl _
/-- both have a fact more that is no child -/
theorem fcInv_add {m m1 m2 : jM} {k a b c e : Int} (h : fcInv m) (hT : m 139 44 < 100) (h1 : fcAC m m1 k a b c e) (h2 : fcAR m1 m2 k a b c e) (k0 : k ≠ 0) (k6 : k ≠ 6) (hv : fcVal (m 139 50) (m 179) (m 139 44) k a b c e) : fcIn m m2 := by
  obtain ⟨a0, a1, a2, a3, a4, a5, a6, af⟩ := h1
  obtain ⟨b0, b1, b2, b3, b4, b5, bf⟩ := h2
  have hc0 : m 13 0 = m 139 44 := h.2.1
  have hc1 : m 13 1 = m 139 50 := h.2.2.1
  have z0 : m1 139 44 = m 139 44 := af _ _ (by decide) (by decide)
  rw [hc0] at a0 a1 a2 a3 a4 a5 a6
  rw [z0] at b0 b1 b2 b3 b4 b5
  have r1 := frx_row af 174 (by decide) (by decide)
  have r2 := frx_row af 175 (by decide) (by decide)
  have r3 := frx_row af 176 (by decide) (by decide)
  have r4 := frx_row af 177 (by decide) (by decide)
  have r5 := frx_row af 178 (by decide) (by decide)
  rw [r1] at b1
  rw [r2] at b2
  rw [r3] at b3
  rw [r4] at b4
  rw [r5] at b5
  have s0 := frx_row bf 13 (by decide) (by decide)
  have s1 := frx_row bf 19 (by decide) (by decide)
  have s2 := frx_row bf 14 (by decide) (by decide)
  have s3 := frx_row bf 15 (by decide) (by decide)
  have s4 := frx_row bf 16 (by decide) (by decide)
  have s5 := frx_row bf 17 (by decide) (by decide)
  have s6 := frx_row bf 20 (by decide) (by decide)
  have y50 : m2 139 50 = m 139 50 := (bf _ _ (by decide) (by decide)).trans (af _ _ (by decide) (by decide))
  have y179 : m2 179 = m 179 := (frx_row bf _ (by decide) (by decide)).trans (frx_row af _ (by decide) (by decide))
  have y18 : m2 18 = m 18 := (frx_row bf _ (by decide) (by decide)).trans (frx_row af _ (by decide) (by decide))
  have y131 : m2 13 1 = m 13 1 := (bf _ _ (by decide) (by decide)).trans (af _ _ (by decide) (by decide))
  refine fcInv_put (k := k) (a := a) (b := b) (c := c) (e := e) h hT (by rw [s0]; exact a0) (by rw [s1]; exact a1) (by rw [s2]; exact a2) (by rw [s3]; exact a3) (by rw [s4]; exact a4) (by rw [s5]; exact a5) (fun i => ?_) b0 b1 b2 b3 b4 b5 (by rw [y131, y50]; exact hc1) (Or.inl ⟨k0, y50, fun x => by rw [y179], fun x => by rw [y18]⟩) hv
  rw [s6, a6, if_neg (show ¬ (k = 6 ∧ i = a) from fun z => k6 z.1)]
abbrev fcUp : List Int := [14, 15, 16, 17, 18, 19, 20, 174, 175, 176, 177, 178, 179]
abbrev fcUf : List (Int × Int) := [(13, 0), (13, 1), (139, 44), (139, 50)]
theorem fc_fr {m m1 m2 : jM} {k a b c e : Int} (h1 : fcAC m m1 k a b c e) (h2 : fcAR m1 m2 k a b c e) : frx fcUp fcUf m m2 := frx_tr (frx_mono h1.2.2.2.2.2.2.2 (by decide) (by decide)) (frx_mono h2.2.2.2.2.2.2 (by decide) (by decide))
/-- what is unchanged for the reference behind the class's add -/
theorem fcAC_r {m m1 : jM} {k a b c e : Int} (h : fcInv m) (h1 : fcAC m m1 k a b c e) : m1 139 44 = m 139 44 ∧ m1 139 50 = m 139 50 ∧ m1 174 = m 174 := ⟨h1.2.2.2.2.2.2.2 _ _ (by decide) (by decide), h1.2.2.2.2.2.2.2 _ _ (by decide) (by decide), frx_row h1.2.2.2.2.2.2.2 _ (by decide) (by decide)⟩
/-- a call that adds one fact, in the reference -/
def fcGo (m : jM) (ok : Prop) (k a b c e : Int) (Q : Int → jM → Prop) : Prop := (¬ (ok ∧ m 139 44 < 100) → Q (-1) m) ∧ ∀ m1, ok → m 139 44 < 100 → fcAR m m1 k a b c e → Q (m 139 44) m1
theorem r_move {m : jM} {Q : Int → jM → Prop} {x h f w : Int} (ht : 0 ≤ m 139 44 ∧ m 139 44 ≤ 100) (g : fcGo m (0 ≤ x ∧ x < m 139 50 ∧ 0 ≤ h ∧ h < 12 ∧ 0 ≤ f ∧ f < 365) (if w = 0 then 1 else 2) x h f 0 Q) : ML iX11_move [(2, 139), (0, x), (0, h), (0, f), (0, w)] m Q := by
  refine sX11_move ?_
  repeat' (first
    | refine v_if (fun h => absurd h (by decide)) (fun _ => ?_)
    | refine v_if (fun _ => ?_) (fun h => absurd (by decide) h)
    | refine v_if (fun _ => ?_) (fun _ => ?_)
    | refine v_bd (by omega) (by omega) ?_
    | refine v_b0 ?_
    | refine v_b1 ?_
    | refine sX11_isChild ?_
    | refine sX11_isIn ?_)
  all_goals first
    | exact g.1 (by omega)
    | (refine c_fact ht (fun z => g.1 (by omega)) (fun m1 z hA => g.2 m1 (by omega) z ?_)
       first
       | (rw [if_pos (by assumption)]; exact hA)
       | (rw [if_neg (by assumption)]; exact hA))
theorem k_move {m : jM} {Q : Int → jM → Prop} {x h f w : Int} (hi : fcInv m) (hno : ¬ (0 ≤ x ∧ x < m 139 50 ∧ 0 ≤ h ∧ h < 12 ∧ 0 ≤ f ∧ f < 365 ∧ m 139 44 < 100) → Q (-1) m) (hQ : ∀ m1, 0 ≤ x → x < m 139 50 → 0 ≤ h → h < 12 → 0 ≤ f → f < 365 → m 139 44 < 100 → fcAC m m1 (if w = 0 then 1 else 2) x h f 0 → Q (m 139 44) m1) : ML iX10_move [(2, 0), (0, x), (0, h), (0, f), (0, w)] m Q := by
  have hc0 : m 13 0 = m 139 44 := hi.2.1
  have hc1 : m 13 1 = m 139 50 := hi.2.2.1
  have ht := hi.1.1
  refine sX10_move ?_
  rw [hc1]
  repeat' (first
    | refine v_if (fun h => absurd h (by decide)) (fun _ => ?_)
    | refine v_if (fun _ => ?_) (fun h => absurd (by decide) h)
    | refine v_if (fun _ => ?_) (fun _ => ?_)
    | refine v_bd (by omega) (by omega) ?_
    | refine v_b0 ?_
    | refine v_b1 ?_
    | refine sX10_isDay ?_
    | refine sX10_within ?_)
  all_goals first
    | exact hno (by omega)
    | (refine c_add (by omega) (fun z => hno (by omega)) (fun m1 z hA => ?_)
       rw [hc0]
       refine hQ m1 (by omega) (by omega) (by omega) (by omega) (by omega) (by omega) (by omega) ?_
       first
       | (rw [if_pos (by assumption)]; exact hA)
       | (rw [if_neg (by assumption)]; exact hA))
theorem p_move {m : jM} {x h f w : Int} (hi : fcInv m) : ML iX10_move [(2, 0), (0, x), (0, h), (0, f), (0, w)] m (fun r m1 => ML iX11_move [(2, 139), (0, x), (0, h), (0, f), (0, w)] m1 (fun r' m2 => r = r' ∧ fcIn m m2 ∧ frx fcUp fcUf m m2)) := by
  have ht := hi.1.1
  refine k_move hi (fun hn => r_move ⟨ht.1, ht.2.1⟩ ⟨fun _ => ⟨rfl, fcIn_rf hi, frx_rf⟩, fun m1 z z2 => absurd (by omega) hn⟩) (fun m1 x0 x1 h0 h1 f0 f1 hT hA => ?_)
  obtain ⟨e1, e2, -⟩ := fcAC_r hi hA
  refine r_move (by omega) ⟨fun z => absurd ⟨by omega, by omega⟩ z, fun m2 _ _ hR => ⟨e1.symm, fcInv_add hi hT hA hR (by split <;> decide) (by split <;> decide) (Or.inr (Or.inl ⟨?_, by omega⟩)), fc_fr hA hR⟩⟩
  split
  · exact Or.inl rfl
  · exact Or.inr rfl

/-! the class reads the whole tape -/
theorem kdW_in {l : List Int} {k : Int} (h : kdW l k) : 0 ≤ k ∧ k ≤ 22 := by
  rcases h with h | h <;> omega
theorem tkC_kd {B : Int → Int} {p kd vl e : Int} (h : tkC B p kd vl e) : (0 ≤ kd ∧ kd ≤ 35) ∧ (kd = 23 → 0 ≤ vl ∧ vl ≤ 9999) ∧ (kd ≠ 34 → p < e) := by
  rcases h with ⟨-, h, -⟩ | ⟨h1, h2, h3⟩ | ⟨h1, h2, h3⟩ | ⟨h1, h2, h3, h4, h5⟩
  · exact ⟨by omega, fun w => by omega, fun w => absurd h w⟩
  · have pe : p < e := by
      have := h2.1
      by_cases c : p = e
      · rw [c] at h1; exact absurd h1 h2.2.2
      · omega
    rcases h3 with ⟨-, h3⟩ | ⟨-, -, h3⟩
    · exact ⟨by omega, fun w => by omega, fun _ => pe⟩
    · have := kdW_in h3
      exact ⟨by omega, fun w => by omega, fun _ => pe⟩
  · have pe : p < e := by
      have := h2.1
      by_cases c : p = e
      · rw [c] at h1; exact absurd h1 h2.2.2
      · omega
    rcases h3 with ⟨-, h3⟩ | ⟨h6, h3, h7⟩
    · exact ⟨by omega, fun w => by omega, fun _ => pe⟩
    · refine ⟨by omega, fun _ => ?_, fun _ => pe⟩
      have d := dgR_in (B := B) (p := p) (n := (e - p).toNat) (fun q a b => h2.2.1 q a (by omega))
      have c4 : (e - p).toNat = 0 ∨ (e - p).toNat = 1 ∨ (e - p).toNat = 2 ∨ (e - p).toNat = 3 ∨ (e - p).toNat = 4 := by omega
      have pw : (10 : Int) ^ (e - p).toNat ≤ 10000 := by rcases c4 with c | c | c | c | c <;> rw [c] <;> decide
      rw [h7]
      omega
  · have := ksg_in (B p) (B (p + 1))
    refine ⟨by omega, fun w => by omega, fun _ => ?_⟩
    rw [h5]
    split <;> omega
theorem tch_at {B K S V : Int → Int} {i : Nat} {a : Int} (h : tch B K S V i a) {j : Nat} (hj : j < i) : ∃ b e, isRun B isBl b (S j) ∧ tkC B (S j) (K j) (V j) e ∧ tch B K S V (j + 1) e := by
  have e : i = (j + 1) + (i - (j + 1)) := by omega
  rw [e] at h
  obtain ⟨x, hx⟩ := tch_pre h
  obtain ⟨b, h1, h2, h3⟩ := id hx
  exact ⟨b, x, h2, h3, hx⟩
theorem tkN_kI {B K S V : Int → Int} {n : Int} (h : tkN B K S V n) : kI K S n ∧ tV K V n := by
  obtain ⟨n0, n4, ⟨a, ha⟩, hK, hE⟩ := h
  have at_ : ∀ j, 0 ≤ j → j ≤ n → ∃ b e, isRun B isBl b (S j) ∧ tkC B (S j) (K j) (V j) e ∧ tch B K S V (j.toNat + 1) e := by
    intro j j0 j1
    have := tch_at ha (j := j.toNat) (by omega)
    rw [Int.toNat_of_nonneg j0] at this
    exact this
  have step : ∀ i, 0 ≤ i → i < n → S i < S (i + 1) := by
    intro i i0 i1
    obtain ⟨b, e, h1, h2, h3⟩ := at_ i i0 (by omega)
    obtain ⟨b', e', g1, g2, g3⟩ := id (at_ (i + 1) (by omega) (by omega))
    have : ∃ b2, tch B K S V (i.toNat + 1) b2 ∧ isRun B isBl b2 (S (i + 1)) := by
      rw [show (i + 1).toNat + 1 = (i.toNat + 1) + 1 by omega] at g3
      obtain ⟨b2, q1, q2, q3⟩ := g3
      have ei : (((i.toNat + 1 : Nat) : Int)) = i + 1 := by omega
      rw [ei] at q2
      exact ⟨b2, q1, q2⟩
    obtain ⟨b2, q1, q2⟩ := this
    have eb := tch_1 h3 q1
    have lt := (tkC_kd h2).2.2 (hK i i0 i1).1
    have := q2.1
    omega
  have mono : ∀ (d : Nat) (i : Int), 0 ≤ i → i + (d : Int) + 1 ≤ n → S i < S (i + (d : Int) + 1) := by
    intro d
    induction d with
    | zero =>
      intro i i0 i1
      have := step i i0 (by omega)
      rw [show i + ((0 : Nat) : Int) + 1 = i + 1 by omega]
      exact this
    | succ d ih =>
      intro i i0 i1
      have h1 := ih i i0 (by omega)
      have h2 := step (i + (d : Int) + 1) (by omega) (by omega)
      rw [show i + ((d + 1 : Nat) : Int) + 1 = i + (d : Int) + 1 + 1 by omega]
      omega
  refine ⟨⟨fun j j0 j1 => ?_, fun i j i0 ij j1 => ?_⟩, ⟨n0, n4⟩, hE, fun i i0 i1 => ?_⟩
  · obtain ⟨b, e, h1, h2, h3⟩ := at_ j j0 j1
    exact (tkC_kd h2).1
  · have := mono (j - i - 1).toNat i i0 (by omega)
    rw [show i + ((j - i - 1).toNat : Int) + 1 = j by omega] at this
    exact this
  · obtain ⟨b, e, h1, h2, h3⟩ := at_ i i0 i1
    exact (tkC_kd h2).2.1
/-- what is untold is so -/
def uT (i : Int) : Int := ([20, 45, 1000, 5, 30, 100, 2] : List Int).getD i.toNat 0
def utI (m : jM) : Prop := ∀ i, 0 ≤ i → i < 7 → m (-3) i = uT i
/-- a text's meaning at its beginning -/
def V0 : jM := fun p i => if p = 9 then uT i else 0
abbrev P0 : Int × Int × Int := (0, 0, 0)
theorem V0_0 (j : Int) : V0 0 j = 0 := rfl
theorem uT_in : ∀ i : Fin 7, 0 ≤ uT ((i : Nat) : Int) ∧ uT ((i : Nat) : Int) ≤ 9999 := by decide
theorem smOk_V0 : smOk V0 := by unfold smOk; simp only [V0_0]; decide
theorem teI_V0 {n : Int} (h : 0 ≤ n) : teI n P0 V0 := ⟨⟨Int.le_refl _, h⟩, smOk_V0, by rw [V0_0]; exact Int.le_refl _, by rw [V0_0]; exact Int.le_refl _⟩
theorem lwI_V0 {S : Int → Int} : lwI S P0 V0 := by
  refine ⟨⟨by rw [V0_0]; exact Int.le_refl _, fun i j h0 h1 h2 => ?_, fun i h0 h1 => ?_, fun i j h0 h1 h2 => ?_⟩, fun w => absurd (V0_0 11) w, fun _ => ⟨?_, fun i h0 h1 => ?_, fun i h0 h1 => ?_, fun i h0 h1 => ?_, fun i h0 h1 => ?_⟩⟩
  · rw [V0_0] at h2; omega
  · rw [V0_0] at h1; omega
  · rw [V0_0] at h2; omega
  · simp only [V0_0]; decide
  · rw [V0_0] at h1; omega
  · rw [V0_0] at h1; omega
  · rw [V0_0] at h1; omega
  · have := uT_in ⟨i.toNat, by omega⟩
    simp only [Int.toNat_of_nonneg h0] at this
    exact this
/-- what reading a tape writes in the class -/
def rdB (t : Int) (m m' : jM) : Prop := ∀ q i, (q ≠ 1 ∧ q ≠ 4 ∧ q ≠ 5 ∧ q ≠ 6 ∧ q ≠ 8 ∧ q ≠ 9 ∧ q ≠ 10 ∧ (q < t ∨ t + 10 < q)) ∨ (q = t ∧ i = 0) → m' q i = m q i
theorem rdB_rf {t : Int} {m : jM} : rdB t m m := fun _ _ _ => rfl
theorem rdB_tr {t : Int} {m m1 m2 : jM} (h : rdB t m m1) (h2 : rdB t m1 m2) : rdB t m m2 := fun q i hq => (h2 q i hq).trans (h q i hq)
theorem rdB_A {t : Int} {m m' : jM} (h : rdA t m m') : rdB t m m' := fun q i hq => h q i (by omega)
theorem rdB_up {t : Int} {m m' : jM} {p i x : Int} (h : rdB t m m') (hp : p = 1 ∨ (t ≤ p ∧ p ≤ t + 10 ∧ (p = t → i ≠ 0))) (ht : 27 ≤ t) : rdB t m (jup m' p i x) := fun q j hq => by
  have c : ¬ (q = p ∧ j = i) := fun w => by
    rw [w.1, w.2] at hq
    omega
  show (if q = p ∧ j = i then x else m' q j) = _
  rw [if_neg c]
  exact h q j hq
theorem cMn_V0 {t : Int} {m : jM} (ht : jTx t) (h : m t 1 = 0 ∧ m t 2 = 0 ∧ m t 7 = 0 ∧ m t 8 = 0 ∧ m t 11 = 0 ∧ m t 13 = 0) (hr : ∀ i, 0 ≤ i → i < 7 → m (t + 10) i = uT i) (hn : m 1 8 = 0) (hl : m 1 4 = 0) : cMn V0 t m := by
  obtain ⟨h1, h2, h3, h4, h5, h6⟩ := h
  refine ⟨⟨⟨ht, ⟨by rw [h1, V0_0], by rw [h2, V0_0], by rw [h4, V0_0], by rw [h5, V0_0], by rw [h6, V0_0]⟩, fun i i0 i1 => ?_, ?_, fun i i0 i1 => ?_, fun i i0 i1 => ?_, fun i i0 i1 => ?_⟩, fun i i0 i1 => ?_⟩, ?_, ?_, fun i i0 i1 => ?_, ?_, fun w => absurd (V0_0 11) w⟩
  · rw [V0_0] at i1; omega
  · rw [h3]; decide
  · rw [V0_0] at i1; omega
  · rw [V0_0] at i1; omega
  · exact hr i i0 i1
  · rw [h3, tb_zero]
  · rw [hn, V0_0]
  · rw [V0_0]; decide
  · rw [V0_0] at i1; omega
  · rw [hl, V0_0]
theorem cCd_V0 {t : Int} {m : jM} (h : m t 16 = 0) : cCd V0 t m := by
  refine ⟨by rw [h, V0_0], by rw [V0_0]; decide, fun i i0 i1 => ?_, fun i i0 i1 => ?_⟩
  · rw [V0_0] at i1; omega
  · rw [V0_0] at i1; omega
/-- how the class ends its reading -/
def cOut (t : Int) (Y : (Int × Int × Int) × jM) (m' : jM) : Prop := (Y.1.2.1 ≠ 0 ∧ m' 1 0 = Y.1.2.1 ∧ m' 1 1 = Y.1.2.2) ∨ (Y.1.2.1 = 0 ∧ m' 1 0 = Y.2 0 11 ∧ (Y.2 0 11 ≠ 0 → m' 1 1 = Y.2 0 12) ∧ vCt Y.2 t m' ∧ cCd Y.2 t m')
theorem c_readTape {t : Int} {m : jM} {Q : Int → jM → Prop} (ht : jTx t) (hU : utI m) (hb : bcI m) (hw : wkI m) (hQ : ∀ m' K S W n, tkN (Bc m) K S W n → rdB t m m' → cOut t (tlF K S W 401 (P0, V0)) m' → Q 0 m') : ML iX4_readTape [(2, 1), (2, t)] m Q := by
  have tr := jTx_rng ht
  refine sX4_readTape ht (sX8_clear ht ?_)
  generalize hm1 : jup (jup (jup (jup m 1 0 0) 1 4 0) 1 3 0) 1 8 0 = m1
  have e1 : ∀ q, q ≠ 1 → m1 q = m q := fun q hq => by rw [← hm1, jup_ne hq, jup_ne hq, jup_ne hq, jup_ne hq]
  have e10 : m1 1 0 = 0 := by rw [← hm1, jup_j (by decide), jup_j (by decide), jup_j (by decide), jup_s]
  have e14 : m1 1 4 = 0 := by rw [← hm1, jup_j (by decide), jup_j (by decide), jup_s]
  have e13 : m1 1 3 = 0 := by rw [← hm1, jup_j (by decide), jup_s]
  have e18 : m1 1 8 = 0 := by rw [← hm1, jup_s]
  generalize hm2 : jcopy (jup (jup (jup (jup (jup (jup (jup m1 t 1 0) t 2 0) t 7 0) t 8 0) t 11 0) t 13 0) t 16 0) (-3) (t + 10) 7 = m2
  have e2 : ∀ q, q ≠ t → q ≠ t + 10 → m2 q = m1 q := fun q h1 h2 => by
    rw [← hm2]
    funext i
    show (if q = t + 10 ∧ _ then _ else _) = _
    rw [if_neg (fun w => h2 w.1), jup_ne h1, jup_ne h1, jup_ne h1, jup_ne h1, jup_ne h1, jup_ne h1, jup_ne h1]
  have et : ∀ i, m2 t i = (jup (jup (jup (jup (jup (jup (jup m1 t 1 0) t 2 0) t 7 0) t 8 0) t 11 0) t 13 0) t 16 0) t i := fun i => by
    rw [← hm2]
    show (if t = t + 10 ∧ _ then _ else _) = _
    rw [if_neg (fun w => by omega)]
  have er : ∀ i, 0 ≤ i → i < 7 → m2 (t + 10) i = uT i := fun i i0 i1 => by
    rw [← hm2]
    show (if t + 10 = t + 10 ∧ 0 ≤ i ∧ i < 7 then _ else _) = _
    rw [if_pos ⟨rfl, i0, i1⟩, jup_ne (by omega), jup_ne (by omega), jup_ne (by omega), jup_ne (by omega), jup_ne (by omega), jup_ne (by omega), jup_ne (by omega), e1 (-3) (by decide)]
    exact hU i i0 i1
  have fB : rdB t m m2 := by
    intro q i hq
    by_cases c : q = t
    · have ci : i = 0 := by omega
      subst c
      subst ci
      rw [et, jup_j (by decide), jup_j (by decide), jup_j (by decide), jup_j (by decide), jup_j (by decide), jup_j (by decide), jup_j (by decide), e1 q (by omega)]
    · rw [e2 q c (by omega), e1 q (by omega)]
  have eB : Bc m2 = Bc m := by
    unfold Bc
    rw [e2 2 (by omega) (by omega), e2 3 (by omega) (by omega), e1 2 (by decide), e1 3 (by decide)]
  have hb2 : bcI m2 := by
    unfold bcI
    rw [e2 2 (by omega) (by omega), e2 3 (by omega) (by omega), e1 2 (by decide), e1 3 (by decide)]
    exact hb
  have hw2 : wkI m2 := by
    unfold wkI
    rw [e2 7 (by omega) (by omega), e1 7 (by decide)]
    exact hw
  refine c_scan hb2 hw2 (fun m3 n f3 hk => ?_)
  rw [eB] at hk
  have hN : tkN (Bc m) (m3 4) (m3 5) (m3 6) n := hk
  have kv := tkN_kI hN
  have r3 : ∀ q, q ≠ 4 → q ≠ 5 → q ≠ 6 → m3 q = m2 q := fun q h4 h5 h6 => frx_row f3 q (by simp only [List.mem_cons, List.not_mem_nil, or_false]; omega) (by simp)
  have f3B : rdB t m2 m3 := fun q i hq => by rw [r3 q (by omega) (by omega) (by omega)]
  have h1 : ∀ i, m3 1 i = m1 1 i := fun i => by rw [r3 1 (by decide) (by decide) (by decide), e2 1 (by omega) (by omega)]
  have htt : ∀ i, m3 t i = m2 t i := fun i => by rw [r3 t (by omega) (by omega) (by omega)]
  have M0 : cMn V0 t m3 := by
    refine cMn_V0 ht ?_ (fun i i0 i1 => by rw [r3 (t + 10) (by omega) (by omega) (by omega)]; exact er i i0 i1) ((h1 8).trans e18) ((h1 4).trans e14)
    rw [htt, htt, htt, htt, htt, htt, et, et, et, et, et, et]
    refine ⟨?_, ?_, ?_, ?_, ?_, ?_⟩
    · rw [jup_j (by decide), jup_j (by decide), jup_j (by decide), jup_j (by decide), jup_j (by decide), jup_j (by decide), jup_s]
    · rw [jup_j (by decide), jup_j (by decide), jup_j (by decide), jup_j (by decide), jup_j (by decide), jup_s]
    · rw [jup_j (by decide), jup_j (by decide), jup_j (by decide), jup_j (by decide), jup_s]
    · rw [jup_j (by decide), jup_j (by decide), jup_j (by decide), jup_s]
    · rw [jup_j (by decide), jup_j (by decide), jup_s]
    · rw [jup_j (by decide), jup_s]
  have C0 : cCd V0 t m3 := cCd_V0 (by rw [htt, et, jup_s])
  refine c_tapeLoop (n := n) (K := m3 4) (S := m3 5) (Wv := m3 6) (m0 := m3) ht kv.2 401 (P0, V0) 0 m3 (by decide) (by decide) (by decide) (fun _ _ _ => rfl) rfl ⟨by decide, (h1 3).trans e13, (h1 0).trans e10, fun w => absurd rfl w⟩ ⟨rfl, rfl, rfl⟩ M0 C0 (teI_V0 hN.1) (fun m' r' P' R' => ?_)
  have fF := rdB_tr (rdB_tr fB f3B) (rdB_A r')
  refine ⟨fun z => ?_, fun z => ?_⟩
  · have nz : (tlF (m3 4) (m3 5) (m3 6) 401 (P0, V0)).1.2.1 ≠ 0 := by rw [← P'.2.2.1]; exact z
    exact hQ m' _ _ _ n hN fF (Or.inl ⟨nz, P'.2.2.1, P'.2.2.2 nz⟩)
  · have zz : (tlF (m3 4) (m3 5) (m3 6) 401 (P0, V0)).1.2.1 = 0 := by rw [← P'.2.2.1]; omega
    obtain ⟨g1, g2, g3⟩ := R' zz
    have f1 : ∀ q, q ≠ 1 → (jup (jup m' 1 0 (m' 1 4)) 1 1 (m' 1 5)) q = m' q := fun q hq => by rw [jup_ne hq, jup_ne hq]
    refine hQ _ _ _ _ n hN (rdB_up (rdB_up fF (Or.inl rfl) tr.1) (Or.inl rfl) tr.1) (Or.inr ⟨zz, ?_, fun w => ?_, vCt_fr3 g2.1.1 (fun j j0 j1 => f1 _ (by omega)), ?_⟩)
    · rw [jup_j (by decide), jup_s]; exact g2.2.2.2.2.1
    · rw [jup_s]; exact g2.2.2.2.2.2 w
    · unfold cCd at g3 ⊢
      rw [f1 t (by omega), f1 (t + 9) (by omega), f1 (t + 8) (by omega)]
      exact g3

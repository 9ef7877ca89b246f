/-! the reference's parser: what stands, and its helpers -/
theorem sgn_inj {a b : Int} (a0 : 24 ≤ a) (a1 : a ≤ 33) (b0 : 24 ≤ b) (b1 : b ≤ 33) (h : sgn a = sgn b) : a = b := by
  have key : ∀ i j : Fin 10, sgn (24 + ((i : Nat) : Int)) = sgn (24 + ((j : Nat) : Int)) → i = j := by decide +kernel
  have := key ⟨(a - 24).toNat, by omega⟩ ⟨(b - 24).toNat, by omega⟩ (by
    simp only
    rw [show 24 + (((a - 24).toNat : Nat) : Int) = a by omega, show 24 + (((b - 24).toNat : Nat) : Int) = b by omega]
    exact h)
  have := congrArg Fin.val this
  simp only at this
  omega
theorem wno_inj {a b : Int} (a0 : 0 ≤ a) (a1 : a < 22) (b0 : 0 ≤ b) (b1 : b < 22) (h : wno a = wno b) : a = b := by
  have key : ∀ i j : Fin 22, wno ((i : Nat) : Int) = wno ((j : Nat) : Int) → i = j := by decide +kernel
  have := key ⟨a.toNat, by omega⟩ ⟨b.toNat, by omega⟩ (by
    simp only
    rw [Int.toNat_of_nonneg a0, Int.toNat_of_nonneg b0]
    exact h)
  have := congrArg Fin.val this
  simp only at this
  omega
/-- what a token's sort says of its kind -/
theorem tk_sort {kd vl p so fr wh nm : Int} (h : tkX kd vl p so fr wh nm) (b0 : 0 ≤ kd) (b1 : kd ≤ 35) : (so = 0 ↔ kd = 22) ∧ (so = 1 ↔ kd = 23) ∧ (so = 2 ↔ 24 ≤ kd ∧ kd ≤ 33) ∧ (so = 3 ↔ kd < 22) ∧ (so = 4 ↔ kd = 34) := by
  obtain ⟨-, h2, h3, h4, h5, h6, h7, -⟩ := h
  have c : kd < 22 ∨ kd = 22 ∨ kd = 23 ∨ (24 ≤ kd ∧ kd ≤ 33) ∨ kd = 34 ∨ kd = 35 := by omega
  rcases c with c | c | c | c | c | c
  · have := (h2 b0 c).1; omega
  · have := h3 c; omega
  · have := (h4 c).1; omega
  · have := (h5 c.1 c.2).1; omega
  · have := h6 c; omega
  · have := h7.mp c; omega
theorem tk_sign {kd vl p so fr wh nm k : Int} (h : tkX kd vl p so fr wh nm) (b0 : 0 ≤ kd) (b1 : kd ≤ 35) (k0 : 24 ≤ k) (k1 : k ≤ 33) : so = 2 ∧ wh = sgn k ↔ kd = k := by
  have s := (tk_sort h b0 b1).2.2.1
  constructor
  · rintro ⟨a, b⟩
    have r := s.mp a
    have := (h.2.2.2.2.1 r.1 r.2).2
    exact sgn_inj r.1 r.2 k0 k1 (by rw [← this]; exact b)
  · rintro rfl
    exact h.2.2.2.2.1 k0 k1
theorem tk_word {kd vl p so fr wh nm k : Int} (h : tkX kd vl p so fr wh nm) (b0 : 0 ≤ kd) (b1 : kd ≤ 35) (k0 : 0 ≤ k) (k1 : k < 22) : so = 3 ∧ wh = wno k ↔ kd = k := by
  have s := (tk_sort h b0 b1).2.2.2.1
  constructor
  · rintro ⟨a, b⟩
    have r := s.mp a
    have := (h.2.1 b0 r).2
    exact wno_inj b0 r k0 k1 (by rw [← this]; exact b)
  · rintro rfl
    exact h.2.1 k0 k1
/-- kinds and places as they must be -/
def kI (K S : Int → Int) (n : Int) : Prop := (∀ j, 0 ≤ j → j ≤ n → 0 ≤ K j ∧ K j ≤ 35) ∧ ∀ i j, 0 ≤ i → i < j → j ≤ n → S i < S j
def rTk (K S W : Int → Int) (n : Int) (m : jM) : Prop := tkM K S W n m ∧ kI K S n ∧ 0 ≤ n ∧ n ≤ 400
def rPs (P : Int × Int × Int) (m : jM) : Prop := (0 ≤ P.1 ∧ P.1 ≤ 400) ∧ m 139 7 = P.1 ∧ m 139 8 = P.2.1 ∧ (P.2.1 ≠ 0 → m 139 9 = P.2.2) ∧ (P.2.1 = 0 → m 139 9 = -1)
/-- counts, names' count and the late fault -/
def rCt (V : jM) (c k : Int) (m : jM) : Prop := (0 ≤ k ∧ k < 3 ∧ m 139 13 = k) ∧ (m 147 k = V 0 0 ∧ m 148 k = V 0 1 ∧ m 154 k = V 0 2 ∧ m 157 k = V 0 3 ∧ m 159 k = V 0 4) ∧ (0 ≤ m 139 41 ∧ m 139 41 ≤ c ∧ c ≤ 24) ∧ m 139 10 = V 0 11 ∧ (V 0 11 ≠ 0 → m 139 11 = V 0 12)
def rNa (V : jM) (m : jM) : Prop := m 139 41 = V 0 10 ∧ ∀ i, 0 ≤ i → i < V 0 10 → (∃ l, okW l ∧ V 30 i = vB 32 l ∧ m 172 i = vB 27 l) ∧ m 173 i = V 31 i
def rRw (V : jM) (k : Int) (m : jM) : Prop := (∀ i, 0 ≤ i → i < V 0 1 → m 149 (24 * k + i) = V 1 i ∧ m 150 (24 * k + i) = V 2 i ∧ m 151 (24 * k + i) = V 3 i ∧ m 152 (24 * k + i) = V 4 i ∧ m 153 (24 * k + i) = V 5 i) ∧ (∀ i, 0 ≤ i → i < V 0 2 → m 155 (3 * k + i) = V 6 i ∧ m 156 (3 * k + i) = V 7 i) ∧ (∀ i, 0 ≤ i → i < V 0 3 → m 158 (6 * k + i) = V 8 i) ∧ ∀ i, 0 ≤ i → i < 7 → m 146 (7 * k + i) = V 9 i
def rMn (V : jM) (c k : Int) (m : jM) : Prop := rCt V c k m ∧ (V 0 11 = 0 → rNa V m ∧ rRw V k m)
/-- what the helpers leave alone -/
def okH (q i : Int) : Prop := (q ≠ 139 ∧ q ≠ 172 ∧ q ≠ 173) ∨ (q = 139 ∧ i ≠ 7 ∧ i ≠ 8 ∧ i ≠ 9 ∧ i ≠ 10 ∧ i ≠ 11 ∧ i ≠ 41 ∧ i ≠ 64)
def rdH (m m' : jM) : Prop := ∀ q i, okH q i → m' q i = m q i
/-- what TELLs but rights leave alone -/
def okY (k q i : Int) : Prop := (q ≠ 139 ∧ (q < 146 ∨ 158 < q) ∧ q ≠ 172 ∧ q ≠ 173) ∨ (q = 139 ∧ i ≠ 7 ∧ i ≠ 8 ∧ i ≠ 9 ∧ i ≠ 10 ∧ i ≠ 11 ∧ i ≠ 41 ∧ i ≠ 64) ∨ ((q = 147 ∨ q = 148 ∨ q = 154 ∨ q = 157) ∧ i ≠ k) ∨ (149 ≤ q ∧ q ≤ 153 ∧ (i < 24 * k ∨ 24 * k + 24 ≤ i)) ∨ ((q = 155 ∨ q = 156) ∧ (i < 3 * k ∨ 3 * k + 3 ≤ i)) ∨ (q = 158 ∧ (i < 6 * k ∨ 6 * k + 6 ≤ i)) ∨ (q = 146 ∧ (i < 7 * k ∨ 7 * k + 7 ≤ i))
def rdY (k : Int) (m m' : jM) : Prop := ∀ q i, okY k q i → m' q i = m q i
theorem rdH_rf {m : jM} : rdH m m := fun _ _ _ => rfl
theorem rdH_tr {m m1 m2 : jM} (h : rdH m m1) (h2 : rdH m1 m2) : rdH m m2 := fun q i hq => (h2 q i hq).trans (h q i hq)
theorem rdH_up {m m' : jM} {p i x : Int} (h : rdH m m') (hp : ¬ okH p i) : rdH m (jup m' p i x) := fun q j hq => by
  by_cases e : q = p ∧ j = i
  · rw [e.1, e.2] at hq; exact absurd hq hp
  · show (if q = p ∧ j = i then x else m' q j) = _
    rw [if_neg e]; exact h q j hq
theorem rdH_row {m m' : jM} (h : rdH m m') {q : Int} (h1 : q ≠ 139) (h2 : q ≠ 172) (h3 : q ≠ 173) : m' q = m q := by
  funext i
  exact h q i (Or.inl ⟨h1, h2, h3⟩)
theorem rdY_rf {k : Int} {m : jM} : rdY k m m := fun _ _ _ => rfl
theorem rdY_tr {k : Int} {m m1 m2 : jM} (h : rdY k m m1) (h2 : rdY k m1 m2) : rdY k m m2 := fun q i hq => (h2 q i hq).trans (h q i hq)
theorem rdY_H {k : Int} {m m' : jM} (h : rdH m m') : rdY k m m' := fun q i hq => h q i (by unfold okY at hq; unfold okH; omega)
theorem rdY_up {k : Int} {m m' : jM} {p i x : Int} (h : rdY k m m') (hp : ¬ okY k p i) : rdY k m (jup m' p i x) := fun q j hq => by
  by_cases e : q = p ∧ j = i
  · rw [e.1, e.2] at hq; exact absurd hq hp
  · show (if q = p ∧ j = i then x else m' q j) = _
    rw [if_neg e]; exact h q j hq
theorem rTk_cg {K S W : Int → Int} {n : Int} {m m' : jM} (h : rTk K S W n m) (hf : ∀ q, q = 141 ∨ q = 142 ∨ q = 143 ∨ q = 144 → m' q = m q) : rTk K S W n m' := by
  unfold rTk tkM at *
  rw [hf 141 (by omega), hf 142 (by omega), hf 143 (by omega), hf 144 (by omega)]
  exact h
theorem rPs_cg {P : Int × Int × Int} {m m' : jM} (h : rPs P m) (hf : ∀ i, i = 7 ∨ i = 8 ∨ i = 9 → m' 139 i = m 139 i) : rPs P m' := by
  unfold rPs at *
  rw [hf 7 (by omega), hf 8 (by omega), hf 9 (by omega)]
  exact h
theorem rCt_cg {V m m' : jM} {c k : Int} (h : rCt V c k m) (hr : ∀ q, q = 147 ∨ q = 148 ∨ q = 154 ∨ q = 157 ∨ q = 159 → m' q k = m q k) (hf : ∀ i, i = 10 ∨ i = 11 ∨ i = 13 ∨ i = 41 → m' 139 i = m 139 i) : rCt V c k m' := by
  unfold rCt at *
  rw [hr 147 (by omega), hr 148 (by omega), hr 154 (by omega), hr 157 (by omega), hr 159 (by omega), hf 10 (by omega), hf 11 (by omega), hf 13 (by omega), hf 41 (by omega)]
  exact h
theorem rNa_cg {V m m' : jM} (h : rNa V m) (h41 : m' 139 41 = m 139 41) (hr : ∀ q, q = 172 ∨ q = 173 → m' q = m q) : rNa V m' := by
  unfold rNa at *
  rw [h41, hr 172 (by omega), hr 173 (by omega)]
  exact h
theorem rRw_cg {V m m' : jM} {k : Int} (h : rRw V k m) (hr : ∀ q, q = 146 ∨ (149 ≤ q ∧ q ≤ 153) ∨ q = 155 ∨ q = 156 ∨ q = 158 → m' q = m q) : rRw V k m' := by
  unfold rRw at *
  rw [hr 149 (by omega), hr 150 (by omega), hr 151 (by omega), hr 152 (by omega), hr 153 (by omega), hr 155 (by omega), hr 156 (by omega), hr 158 (by omega), hr 146 (by omega)]
  exact h
theorem rMn_cg {V m m' : jM} {c k : Int} (h : rMn V c k m) (hr : ∀ q, (146 ≤ q ∧ q ≤ 159) ∨ q = 172 ∨ q = 173 → m' q = m q) (hf : ∀ i, i = 10 ∨ i = 11 ∨ i = 13 ∨ i = 41 → m' 139 i = m 139 i) : rMn V c k m' :=
  ⟨rCt_cg h.1 (fun q hq => by rw [hr q (by omega)]) hf, fun z => ⟨rNa_cg (h.2 z).1 (hf 41 (by omega)) (fun q hq => hr q (by omega)), rRw_cg (h.2 z).2 (fun q hq => hr q (by omega))⟩⟩
theorem rCt_V {V V' m : jM} {c c' k : Int} (h : rCt V c k m) (h0 : ∀ j, 0 ≤ j → j ≤ 4 → V' 0 j = V 0 j) (h11 : V' 0 11 = V 0 11) (h12 : V' 0 12 = V 0 12) (hc : c ≤ c') (hc2 : c' ≤ 24) : rCt V' c' k m := by
  unfold rCt at *
  rw [h0 0 (by decide) (by decide), h0 1 (by decide) (by decide), h0 2 (by decide) (by decide), h0 3 (by decide) (by decide), h0 4 (by decide) (by decide), h11, h12]
  obtain ⟨h1, h2, h3, h4, h5⟩ := h
  exact ⟨h1, h2, ⟨h3.1, by omega, hc2⟩, h4, h5⟩
theorem rRw_V {V V' m : jM} {k : Int} (h : rRw V k m) (h0 : ∀ j, 1 ≤ j → j ≤ 3 → V' 0 j = V 0 j) (h1 : ∀ p, 1 ≤ p → p ≤ 9 → V' p = V p) : rRw V' k m := by
  unfold rRw at *
  rw [h0 1 (by decide) (by decide), h0 2 (by decide) (by decide), h0 3 (by decide) (by decide), h1 1 (by decide) (by decide), h1 2 (by decide) (by decide), h1 3 (by decide) (by decide), h1 4 (by decide) (by decide), h1 5 (by decide) (by decide), h1 6 (by decide) (by decide), h1 7 (by decide) (by decide), h1 8 (by decide) (by decide), h1 9 (by decide) (by decide)]
  exact h
theorem rNa_V {V V' m : jM} (h : rNa V m) (h10 : V' 0 10 = V 0 10) (h30 : V' 30 = V 30) (h31 : V' 31 = V 31) : rNa V' m := by
  unfold rNa at *
  rw [h10, h30, h31]
  exact h
/-- all that stands between a parser's steps -/
def rX (K S W : Int → Int) (n k : Int) (m0 : jM) (P : Int × Int × Int) (V : jM) (c : Int) (m : jM) : Prop := rdH m0 m ∧ rTk K S W n m ∧ rPs P m ∧ rMn V c k m
theorem rX_ps {K S W : Int → Int} {n k c : Int} {m0 V m m' : jM} {P P' : Int × Int × Int} (h : rX K S W n k m0 P V c m) (hr : ∀ q, q ≠ 139 → m' q = m q) (hf : ∀ i, i ≠ 7 → i ≠ 8 → i ≠ 9 → m' 139 i = m 139 i) (hP : rPs P' m') : rX K S W n k m0 P' V c m' := by
  obtain ⟨h1, h2, h3, h4⟩ := h
  refine ⟨fun q i hq => ?_, rTk_cg h2 (fun q hq => hr q (by omega)), hP, rMn_cg h4 (fun q hq => hr q (by omega)) (fun i hi => hf i (by omega) (by omega) (by omega))⟩
  rw [← h1 q i hq]
  by_cases e : q = 139
  · subst e
    unfold okH at hq
    exact hf i (by omega) (by omega) (by omega)
  · rw [hr q e]
theorem c_wrongR {K S W : Int → Int} {n k c a : Int} {m0 V m : jM} {P : Int × Int × Int} {Q : Int → jM → Prop} (h : rX K S W n k m0 P V c m) (hn : P.1 ≤ n) (h0 : P.2.1 = 0) (ha : a ≠ 0) (hQ : ∀ m', rX K S W n k m0 (flF S a P) V c m' → Q 0 m') : ML iX11_wrong [(2, 139), (0, a)] m Q := by
  obtain ⟨p0, p1, p2, p3, p4⟩ := id h.2.2.1
  have tk := (h.2.1.1 P.1 p0.1 hn).1
  have ef : flF S a P = (P.1, a, S P.1) := by unfold flF; rw [if_neg (fun w => w h0)]
  refine sX11_wrong ?_
  rw [p1, tk]
  refine ⟨p0.1, by omega, hQ _ (rX_ps h (fun q hq => by rw [jup_ne hq, jup_ne hq]) (fun i h7 h8 h9 => by rw [jup_j h9, jup_j h8]) ?_)⟩
  rw [ef]
  exact ⟨p0, by rw [jup_j (by decide), jup_j (by decide)]; exact p1, by rw [jup_j (by decide), jup_s], fun _ => jup_s, fun w => absurd w ha⟩
/-- a token of the kind ahead is passed -/
theorem c_passR {K S W : Int → Int} {n k c kk : Int} {m0 V m : jM} {P : Int × Int × Int} {Q : Int → jM → Prop} (h : rX K S W n k m0 P V c m) (hn : P.1 ≤ n) (h0 : P.2.1 = 0) (hk : K P.1 = kk) (hQ1 : ∀ m', rX K S W n k m0 (stq K S kk P) V c m' → (stq K S kk P).2.1 = 0 → Q 1 m') (hQ0 : ∀ m', rX K S W n k m0 (stq K S kk P) V c m' → (stq K S kk P).2.1 ≠ 0 → Q 0 m') : ML iX11_pass [(2, 139)] m Q := by
  obtain ⟨p0, p1, p2, p3, p4⟩ := id h.2.2.1
  refine sX11_pass ⟨fun z => ?_, fun z => ?_⟩
  · have e : stq K S kk P = (P.1 + 1, 0, P.2.2) := by
      unfold stq
      rw [if_neg (fun w => w h0), if_neg (fun w => w hk), if_neg (by omega)]
    rw [p1, jw_id (x := P.1 + 1) (by omega) (by omega)]
    refine hQ1 _ (rX_ps h (fun q hq => by rw [jup_ne hq]) (fun i h7 h8 h9 => by rw [jup_j h7]) ?_) (by rw [e])
    rw [e]
    exact ⟨⟨by show 0 ≤ P.1 + 1; omega, by show P.1 + 1 ≤ 400; omega⟩, jup_s, by rw [jup_j (by decide)]; exact p2.trans h0, fun w => absurd rfl w, fun _ => by rw [jup_j (by decide)]; exact p4 h0⟩
  · have e : stq K S kk P = flF S 2 P := by
      have hf : flF S 2 P = (P.1, 2, S P.1) := by unfold flF; rw [if_neg (by omega)]
      rw [hf]
      unfold stq
      rw [if_neg (fun w => w h0), if_neg (fun w => w hk), if_pos (by omega)]
    rw [e] at hQ0
    exact c_wrongR h hn h0 (by decide) (fun m' x => ⟨Or.inl rfl, hQ0 m' x (flF_ne (by decide))⟩)
theorem c_isSignR {K S W : Int → Int} {n k c kk a : Int} {m0 V m : jM} {P : Int × Int × Int} {Q : Int → jM → Prop} (h : rX K S W n k m0 P V c m) (hn : P.1 ≤ n) (ha : a = sgn kk) (k0 : 24 ≤ kk) (k1 : kk ≤ 33) (h1 : K P.1 = kk → Q 1 m) (h2 : K P.1 ≠ kk → Q 0 m) : ML iX11_isSign [(2, 139), (0, a)] m Q := by
  obtain ⟨p0, p1, -⟩ := id h.2.2.1
  have tk := h.2.1.1 P.1 p0.1 hn
  have b := h.2.1.2.1.1 P.1 p0.1 hn
  have e := tk_sign tk b.1 b.2 k0 k1
  refine sX11_isSign ?_
  rw [p1, ha]
  exact ⟨p0.1, by omega, fun z => h2 (fun w => z (e.mpr w).1), fun z => ⟨p0.1, by omega, fun z2 => h2 (fun w => z2 (e.mpr w).2), fun z2 => h1 (e.mp ⟨Classical.byContradiction z, Classical.byContradiction z2⟩)⟩⟩
theorem c_isWordR {K S W : Int → Int} {n k c kk a : Int} {m0 V m : jM} {P : Int × Int × Int} {Q : Int → jM → Prop} (h : rX K S W n k m0 P V c m) (hn : P.1 ≤ n) (ha : a = wno kk) (k0 : 0 ≤ kk) (k1 : kk < 22) (h1 : K P.1 = kk → Q 1 m) (h2 : K P.1 ≠ kk → Q 0 m) : ML iX11_isWord [(2, 139), (0, a)] m Q := by
  obtain ⟨p0, p1, -⟩ := id h.2.2.1
  have tk := h.2.1.1 P.1 p0.1 hn
  have b := h.2.1.2.1.1 P.1 p0.1 hn
  have e := tk_word tk b.1 b.2 k0 k1
  refine sX11_isWord ?_
  rw [p1, ha]
  exact ⟨p0.1, by omega, fun z => h2 (fun w => z (e.mpr w).1), fun z => ⟨p0.1, by omega, fun z2 => h2 (fun w => z2 (e.mpr w).2), fun z2 => h1 (e.mp ⟨Classical.byContradiction z, Classical.byContradiction z2⟩)⟩⟩
/-- a token of a sort: NAME or INT -/
theorem c_takesR {K S W : Int → Int} {n k c kk a : Int} {m0 V m : jM} {P : Int × Int × Int} {Q : Int → jM → Prop} (h : rX K S W n k m0 P V c m) (hn : P.1 ≤ n) (h0 : P.2.1 = 0) (ha : (a = 0 ∧ kk = 22) ∨ (a = 1 ∧ kk = 23)) (hQ1 : ∀ m', rX K S W n k m0 (stq K S kk P) V c m' → (stq K S kk P).2.1 = 0 → Q 1 m') (hQ0 : ∀ m', rX K S W n k m0 (stq K S kk P) V c m' → (stq K S kk P).2.1 ≠ 0 → Q 0 m') : ML iX11_takes [(2, 139), (0, a)] m Q := by
  obtain ⟨p0, p1, -⟩ := id h.2.2.1
  have tk := h.2.1.1 P.1 p0.1 hn
  have b := h.2.1.2.1.1 P.1 p0.1 hn
  have s := tk_sort tk b.1 b.2
  refine sX11_takes ?_
  rw [p1]
  refine ⟨p0.1, by omega, fun z => ?_, fun z => ?_⟩
  · have nk : K P.1 ≠ kk := by omega
    have e : stq K S kk P = flF S 1 P := by
      have hf : flF S 1 P = (P.1, 1, S P.1) := by unfold flF; rw [if_neg (by omega)]
      rw [hf]
      unfold stq
      rw [if_neg (fun w => w h0), if_pos nk]
    rw [e] at hQ0
    exact c_wrongR h hn h0 (by decide) (fun m' x => ⟨Or.inl rfl, hQ0 m' x (flF_ne (by decide))⟩)
  · have hk : K P.1 = kk := by omega
    exact c_passR h hn h0 hk (fun m' x y => ⟨Or.inr rfl, hQ1 m' x y⟩) (fun m' x y => ⟨Or.inl rfl, hQ0 m' x y⟩)
/-- late faults stand ahead of a token -/
def loF (S : Int → Int) (V : jM) (tok : Int) : Prop := V 0 11 ≠ 0 → V 0 12 < S tok
theorem loF_lt {S : Int → Int} {V : jM} {a tok tok' : Int} (h : loF S V tok) (hs : S tok < S tok') : loF S (ltF S a tok V) tok' := by
  intro hz
  unfold ltF at hz ⊢
  by_cases c : V 0 11 ≠ 0
  · rw [if_pos c] at hz ⊢
    have := h c
    omega
  · rw [if_neg c] at hz ⊢
    rw [jup_s]; exact hs
theorem ltF_id {S : Int → Int} {a tok : Int} {V : jM} (h : V 0 11 ≠ 0) : ltF S a tok V = V := by unfold ltF; rw [if_pos h]
theorem ltF_11 {S : Int → Int} {a tok : Int} {V : jM} (ha : a ≠ 0) : ltF S a tok V 0 11 ≠ 0 := by
  unfold ltF
  by_cases c : V 0 11 ≠ 0
  · rw [if_pos c]; exact c
  · rw [if_neg c]; rw [jup_j (by decide), jup_s]; exact ha
theorem c_tellsR {K S W : Int → Int} {n k c a tok : Int} {m0 V m : jM} {P : Int × Int × Int} {Q : Int → jM → Prop} (h : rX K S W n k m0 P V c m) (t0 : 0 ≤ tok) (t1 : tok ≤ n) (ha : a ≠ 0) (hl : V 0 11 ≠ 0 → V 0 12 < S tok ∨ (V 0 12 = S tok ∧ V 0 11 ≤ a)) (hQ : ∀ m', rX K S W n k m0 P (ltF S a tok V) c m' → (∀ i, i ≠ 10 → i ≠ 11 → m' 139 i = m 139 i) → Q 0 m') : ML iX11_tells [(2, 139), (0, a), (0, tok)] m Q := by
  obtain ⟨h1, h2, h3, h4⟩ := id h
  have tk := (h2.1 tok t0 t1).1
  have n4 := h2.2.2.2
  obtain ⟨c1, c2, c3, c4, c5⟩ := id h4.1
  have set : V 0 11 = 0 → Q 0 (jup (jup m 139 10 a) 139 11 (m 142 tok)) := by
    intro z
    have e : ltF S a tok V = jup (jup V 0 11 a) 0 12 (S tok) := by unfold ltF; rw [if_neg (fun w => w z)]
    rw [e] at hQ
    refine hQ _ ⟨rdH_up (rdH_up h1 (by unfold okH; omega)) (by unfold okH; omega), rTk_cg h2 (fun q hq => by rw [jup_ne (by omega), jup_ne (by omega)]), rPs_cg h3 (fun i hi => by rw [jup_j (by omega), jup_j (by omega)]), ?_, fun w => ?_⟩ (fun i h10 h11 => by rw [jup_j h11, jup_j h10])
    · refine ⟨⟨c1.1, c1.2.1, by rw [jup_j (by decide), jup_j (by decide)]; exact c1.2.2⟩, ?_, by rw [jup_j (by decide), jup_j (by decide)]; exact c3, by rw [jup_j (by decide), jup_s, jup_j (by decide), jup_s], fun _ => by rw [jup_s, jup_s]; exact tk⟩
      have er : ∀ q, q ≠ 139 → (jup (jup m 139 10 a) 139 11 (m 142 tok)) q = m q := fun q hq => by rw [jup_ne hq, jup_ne hq]
      have ev : ∀ j, j ≠ 11 → j ≠ 12 → (jup (jup V 0 11 a) 0 12 (S tok)) 0 j = V 0 j := fun j a b => by rw [jup_j b, jup_j a]
      rw [er 147 (by decide), er 148 (by decide), er 154 (by decide), er 157 (by decide), er 159 (by decide), ev 0 (by decide) (by decide), ev 1 (by decide) (by decide), ev 2 (by decide) (by decide), ev 3 (by decide) (by decide), ev 4 (by decide) (by decide)]
      exact c2
    · rw [jup_j (by decide), jup_s] at w
      exact absurd w ha
  have keep : V 0 11 ≠ 0 → Q 0 m := by
    intro z
    rw [ltF_id z] at hQ
    exact hQ m h (fun _ _ _ => rfl)
  refine sX11_tells ⟨t0, by omega, fun z => set (by omega), fun z => ?_⟩
  have z' : V 0 11 ≠ 0 := by omega
  have e1 := c5 z'
  have l := hl z'
  rw [e1, tk, c4]
  refine ⟨fun _ => keep z', fun z2 => ⟨fun z3 => absurd (by omega) z3, fun z3 => ⟨fun z4 => absurd z4 (by omega), fun _ => keep z'⟩⟩⟩

/-! all routes of a view, who is behind whom, the fewest buses -/
noncomputable def flL (V : jM) : Nat → List (Int × Int × Int)
  | 0 => []
  | s + 1 => flL V s ++ (plR V s).1.map (fun y => ((s : Int), V 8 (stpI V s y 0), bh V s y (-1)))
noncomputable def flT (V : jM) : Int := ((flL V (V 0 2).toNat).length : Int)
noncomputable def flG (V : jM) (i : Int) : Int × Int × Int := (flL V (V 0 2).toNat).getD i.toNat (0, 0, 0)
noncomputable def fS (V : jM) (i : Int) : Int := (flG V i).1
noncomputable def fP (V : jM) (i : Int) : Int := (flG V i).2.1
noncomputable def fB (V : jM) (i : Int) : Int := (flG V i).2.2
theorem plL_mem {V : jM} (hf : vKf V) (hk : vKt V) {s : Int} : ∀ (n : Nat) (x : Int) (r : List Int) (t : Int), 0 ≤ x → x < 64 → sub6 x (srv V s) → 0 ≤ (tA V s x).1.1 → cnt x 6 ≤ n → (∀ y ∈ r, 0 < y ∧ y < 64 ∧ sub6 y (srv V s) ∧ gd V s y) → (∀ y ∈ (plL V s n x r t).1, 0 < y ∧ y < 64 ∧ sub6 y (srv V s) ∧ gd V s y) ∧ (plL V s n x r t).1.length ≤ r.length + n := by
  intro n
  induction n with
  | zero => intro x r t x0 x1 xs xp xc hr; exact ⟨hr, Nat.le_refl _⟩
  | succ n ih =>
    intro x r t x0 x1 xs xp xc hr
    simp only [plL]
    split
    · exact ⟨hr, by simp only; omega⟩
    · rename_i e
      have l := lw_in (show 0 < x by omega) x1
      have d := dl_in x0 x1 l.1.1 l.1.2.1 l.1.2.2
      rcases tA_ch hf hk (show 0 < x by omega) x1 xp with ⟨c0, tk⟩ | ⟨c0, c1, rb, -⟩
      · rw [if_pos c0]
        have := ih _ r (jor t (jshl 1 (low x))) d.2.1 (by omega) (sub6_dl x0 x1 l.1.1 l.1.2.1 l.1.2.2 xs) tk.2.1 (by omega) hr
        exact ⟨this.1, by omega⟩
      · rw [if_neg (by omega)]
        have ri := rtK_in (show 0 < x by omega) x1 (by omega) (by omega) rb.1
        have := ih _ (r ++ [(tA V s x).1.2.2]) t ri.2.1 (by omega) (fun j j0 j1 hj => xs j j0 j1 (ri.2.2.2.1 j j0 j1 hj)) rb.2.1 (by omega) (fun y hy => by
          rcases List.mem_append.mp hy with z | z
          · exact hr y z
          · rw [List.mem_singleton.mp z]
            exact ⟨c0, by omega, fun j j0 j1 hj => xs j j0 j1 (rb.1.1 j j0 j1 hj), rb.1.2.2⟩)
        refine ⟨this.1, ?_⟩
        have h2 := this.2
        rw [List.length_append] at h2
        simp only [List.length_singleton] at h2
        omega
theorem plR_mem {V : jM} (hf : vKf V) (hk : vKt V) (s : Int) : (∀ y ∈ (plR V s).1, 0 < y ∧ y < 64 ∧ sub6 y (srv V s) ∧ gd V s y) ∧ (plR V s).1.length ≤ 6 := by
  have so := srv_ok hk s
  unfold plR
  split
  · exact ⟨fun y hy => by simp at hy, by decide⟩
  · have := plL_mem hf hk (s := s) 6 (srv V s) [] 0 so.1 so.2.1 (fun i _ _ h => h) (by omega) (cnt_nn _ 6).2 (fun y hy => by simp at hy)
    exact ⟨this.1, by have := this.2; simpa using this⟩
/-- the first stop of a good set, its minutes -/
theorem stp0 {V : jM} (hk : vKt V) {s y : Int} (y0 : 0 < y) (y1 : y < 64) (hs : sub6 y (srv V s)) (g : gd V s y) : 0 ≤ stpI V s y 0 ∧ stpI V s y 0 < V 0 3 ∧ stpI V s y 0 = fnL (rR V s 6 y (-1)) 0 ∧ 0 ≤ bh V s y (-1) ∧ bh V s y (-1) ≤ 9999 ∧ 0 < cnt y 6 := by
  have so := srv_ok hk s
  have hb := bh_in hk s (x := y) (by omega) y1 (-1)
  have r1 := hk.2.2.2.2 1 (by decide) (by decide)
  have g1 := g.2.1
  have hc : 0 < cnt y 6 := by
    apply Classical.byContradiction
    intro w
    have := cnt_0 (x := y) (by omega) y1 (by omega)
    omega
  have hn := rN_in (V := V) (s := s) (x := y) (i := -1) y0 y1 (by omega)
  have e : stpI V s y 0 = fnL (rR V s 6 y (-1)) 0 := by
    unfold stpI
    rw [if_pos ⟨by decide, hc, y0, y1, hs, by omega⟩]
  have e2 : fnL (rR V s 6 y (-1)) 0 = rN V s y (-1) := by
    simp only [rR]
    rw [if_neg (by omega)]
    rfl
  have := ((so.2.2.2 _ hn.1 (by omega)).mp (hs _ hn.1 hn.2.1 hn.2.2.1)).1
  rw [e, e2]
  exact ⟨hn.1, this, rfl, hb.1, by omega, hc⟩
theorem flL_mem {V : jM} (hf : vKf V) (hk : vKt V) : ∀ n : Nat, (n : Int) ≤ V 0 2 → (∀ q ∈ flL V n, 0 ≤ q.1 ∧ q.1 < n ∧ 0 ≤ q.2.1 ∧ q.2.1 < V 0 0 ∧ 0 ≤ q.2.2 ∧ q.2.2 ≤ 9999) ∧ (flL V n).length ≤ 6 * n := by
  intro n
  induction n with
  | zero => intro _; exact ⟨fun q hq => by simp [flL] at hq, by simp [flL]⟩
  | succ n ih =>
    intro hn
    have ih := ih (by omega)
    have pm := plR_mem hf hk (n : Int)
    simp only [flL]
    refine ⟨fun q hq => ?_, ?_⟩
    · rcases List.mem_append.mp hq with z | z
      · have := ih.1 q z
        omega
      · obtain ⟨y, hy, rfl⟩ := List.mem_map.mp z
        have py_ := pm.1 y hy
        have st := stp0 hk py_.1 py_.2.1 py_.2.2.1 py_.2.2.2
        have pl_ := hk.2.2.2.1 _ st.1 st.2.1
        simp only
        omega
    · rw [List.length_append, List.length_map]
      have := pm.2
      omega
theorem flT_in {V : jM} (hf : vKf V) (hk : vKt V) : 0 ≤ flT V ∧ flT V ≤ 18 := by
  have h := hk.1
  have := (flL_mem hf hk (V 0 2).toNat (by omega)).2
  unfold flT
  omega
theorem flG_in {V : jM} (hf : vKf V) (hk : vKt V) {i : Int} (i0 : 0 ≤ i) (i1 : i < flT V) : 0 ≤ fS V i ∧ fS V i < V 0 2 ∧ 0 ≤ fP V i ∧ fP V i < V 0 0 ∧ 0 ≤ fB V i ∧ fB V i ≤ 9999 := by
  have h := hk.1
  have m := (flL_mem hf hk (V 0 2).toNat (by omega)).1
  unfold flT at i1
  have hm : flG V i ∈ flL V (V 0 2).toNat := by
    unfold flG
    rw [List.getD_eq_getElem?_getD, List.getElem?_eq_getElem (by omega)]
    exact List.getElem_mem _
  have := m _ hm
  unfold fS fP fB
  omega
/-- y can be done behind x -/
def fR (V : jM) (P : Int → Int) (x y : Int) : Prop := x ≠ y ∧ vD V 2 (V 6 (fS V x)) (fP V y) ≠ -1 ∧ V 7 (fS V x) + P (fS V x) + vD V 2 (V 6 (fS V x)) (fP V y) ≤ V 7 (fS V y) + P (fS V y) - fB V y ∧ (V 7 (fS V x) + P (fS V x) ≠ V 7 (fS V y) + P (fS V y) ∨ x < y)
noncomputable def nb (V : jM) (P : Int → Int) : Int := nbR (flT V).toNat (fR V P)
theorem nbR_cg {T : Nat} {R R' : Int → Int → Prop} (h : ∀ x y : Int, 0 ≤ x → x < T → 0 ≤ y → y < T → (R x y ↔ R' x y)) : nbR T R = nbR T R' := by
  have hm : ∀ M, mtch T R M ↔ mtch T R' M := by
    intro M
    unfold mtch
    constructor
    · rintro ⟨a, b⟩
      refine ⟨fun y y0 y1 => ?_, b⟩
      rcases a y y0 y1 with z | z
      · exact Or.inl z
      · exact Or.inr ⟨z.1, z.2.1, (h _ _ z.1 z.2.1 y0 y1).mp z.2.2⟩
    · rintro ⟨a, b⟩
      refine ⟨fun y y0 y1 => ?_, b⟩
      rcases a y y0 y1 with z | z
      · exact Or.inl z
      · exact Or.inr ⟨z.1, z.2.1, (h _ _ z.1 z.2.1 y0 y1).mpr z.2.2⟩
  have hc : ∀ X, cov T R X ↔ cov T R' X := by
    intro X
    constructor
    · rintro ⟨M, a, b⟩; exact ⟨M, (hm M).mp a, b⟩
    · rintro ⟨M, a, b⟩; exact ⟨M, (hm M).mpr a, b⟩
  have hx : ∀ k : Nat, grX T R k = grX T R' k := by
    intro k
    induction k with
    | zero => rfl
    | succ k ih =>
      funext x
      simp only [grX]
      rw [ih, propext (hc _)]
  have hcc : ∀ k : Nat, grC T R k = grC T R' k := by
    intro k
    induction k with
    | zero => rfl
    | succ k ih =>
      simp only [grC]
      rw [ih, hx k]
      by_cases q : cov T R (fun z => grX T R' k z ∨ z = (k : Int))
      · rw [if_pos q, if_pos ((hc _).mp q)]
      · rw [if_neg q, if_neg (fun z => q ((hc _).mpr z))]
  unfold nbR
  rw [hcc]
theorem nb_cg {V : jM} (hf : vKf V) (hk : vKt V) {P P' : Int → Int} (h : ∀ s, 0 ≤ s → s < V 0 2 → P s = P' s) : nb V P = nb V P' := by
  have t := flT_in hf hk
  refine nbR_cg (fun x y x0 x1 y0 y1 => ?_)
  have a := flG_in hf hk x0 (by omega)
  have b := flG_in hf hk y0 (by omega)
  unfold fR
  rw [h _ a.1 a.2.1, h _ b.1 b.2.1]
theorem nb_in {V : jM} (hf : vKf V) (hk : vKt V) (P : Int → Int) : 0 ≤ nb V P ∧ nb V P ≤ 18 ∧ (0 < flT V → 1 ≤ nb V P) ∧ (flT V = 0 → nb V P = 0) := by
  have t := flT_in hf hk
  have g := grC_in (T := ((flT V).toNat : Int)) (R := fR V P) (flT V).toNat
  refine ⟨by unfold nb nbR; omega, by unfold nb nbR; omega, fun h => ?_, fun h => by unfold nb nbR; omega⟩
  refine (nbR_pos (b := fun x => V 7 (fS V x) + P (fS V x)) (by omega) (fun x y x0 x1 y0 y1 hR => ?_)).1
  have b := flG_in hf hk y0 (by omega)
  obtain ⟨r1, r2, r3, r4⟩ := hR
  have := vD_ge hk 2 (V 6 (fS V x)) (fP V y)
  omega
/-- the class's fleet -/
def flD (V : jM) (m : jM) : Prop := m 106 3 = flT V ∧ m 106 4 = V 0 2 ∧ (∀ i, 0 ≤ i → i < flT V → m 108 i = fS V i) ∧ ∀ x, 0 ≤ x → x < flT V → ∀ s, 0 ≤ s → s < V 0 2 → ∀ d, 0 ≤ d → d < 9 → (0 ≤ m 114 ((x * 3 + s) * 9 + d) ∧ m 114 ((x * 3 + s) * 9 + d) < 262144) ∧ ∀ y, 0 ≤ y → y < 32 → (tb (m 114 ((x * 3 + s) * 9 + d)) y = true ↔ y < flT V ∧ fS V y = s ∧ vD V 2 (V 6 (fS V x)) (fP V y) ≠ -1 ∧ 0 ≤ V 7 (fS V y) - fB V y - V 7 (fS V x) - vD V 2 (V 6 (fS V x)) (fP V y) + 10 * (d - 4) ∧ (x < y ∨ V 7 (fS V x) ≠ V 7 (fS V y) + 10 * (d - 4)))
theorem flD_fr {V m m' : jM} (h : flD V m) (h3 : m' 106 3 = m 106 3) (h4 : m' 106 4 = m 106 4) (h1 : m' 108 = m 108) (h2 : m' 114 = m 114) : flD V m' := by
  unfold flD at *
  rw [h3, h4, h1, h2]
  exact h
def ptK (m : jM) (p : Int → Int) : Prop := ∀ s, 0 ≤ s → s < 3 → m 113 s = p s ∧ -2 ≤ p s ∧ p s ≤ 2
theorem c_followersOf {V m : jM} {Q : Int → jM → Prop} {p : Int → Int} {x : Int} (hf : vKf V) (hk : vKt V) (hD : flD V m) (hp : ptK m p) (x0 : 0 ≤ x) (x1 : x < flT V) (hQ : ∀ r, (0 ≤ r ∧ r < 262144) → (∀ y, 0 ≤ y → y < 32 → (tb r y = true ↔ y < flT V ∧ fR V (fun s => 10 * p s) x y)) → Q r m) : ML iX2_followersOf [(2, 106), (0, x)] m Q := by
  have hN := hk.1
  have t := flT_in hf hk
  have gx := flG_in hf hk x0 x1
  have px := hp (fS V x) gx.1 (by omega)
  refine sX2_followersOf ?_
  refine lup2 (n := V 0 2) (I := fun s (m1 : jM) r => 0 ≤ s ∧ s ≤ V 0 2 ∧ m1 = m ∧ (0 ≤ r ∧ r < 262144) ∧ ∀ y, 0 ≤ y → y < 32 → (tb r y = true ↔ y < flT V ∧ fS V y < s ∧ fR V (fun s => 10 * p s) x y)) (G := fun s m1 r => GL iX2_followersOf m1 4 [(2, 106), (0, x), (0, r), (0, s), (9, 0)] [] Q) ?_ ?_ 0 m 0 ⟨by decide, by omega, rfl, by decide, fun y y0 y1 => ?_⟩
  · rintro s m1 r hs ⟨s0, -, rfl, hr, hb⟩ K
    have ps := hp s s0 (by omega)
    have e := hD.2.2.2 x x0 x1 s s0 hs (p s - p (fS V x) + 4) (by omega) (by omega)
    have o := jor18 hr.1 hr.2 e.1.1 e.1.2
    refine sX2_followersOf_4 ?_
    rw [hD.2.1, hD.2.2.1 x x0 x1, ps.1, px.1, jw_id (x := s + 1) (by omega) (by omega), jw_id (x := x * 3) (by omega) (by omega), jw_id (x := x * 3 + s) (by omega) (by omega), jw_id (x := (x * 3 + s) * 9) (by omega) (by omega), jw_id (x := p s - p (fS V x)) (by omega) (by omega), jw_id (x := p s - p (fS V x) + 4) (by omega) (by omega), jw_id (x := (x * 3 + s) * 9 + (p s - p (fS V x) + 4)) (by omega) (by omega)]
    refine ⟨fun z => absurd z (by omega), fun _ => ⟨s0, by omega, x0, by omega, gx.1, by omega, by omega, by omega, K m1 _ ⟨by omega, by omega, rfl, o.1, fun y y0 y1 => ?_⟩⟩⟩
    rw [o.2 y y0 y1, hb y y0 y1, e.2 y y0 y1]
    have eR : fS V y = s → (fR V (fun s => 10 * p s) x y ↔ (vD V 2 (V 6 (fS V x)) (fP V y) ≠ -1 ∧ 0 ≤ V 7 (fS V y) - fB V y - V 7 (fS V x) - vD V 2 (V 6 (fS V x)) (fP V y) + 10 * (p s - p (fS V x) + 4 - 4) ∧ (x < y ∨ V 7 (fS V x) ≠ V 7 (fS V y) + 10 * (p s - p (fS V x) + 4 - 4)))) := by
      intro hy
      unfold fR
      simp only
      rw [hy]
      constructor
      · rintro ⟨a, b, c, d⟩
        exact ⟨b, by omega, by omega⟩
      · rintro ⟨b, c, d⟩
        refine ⟨?_, b, by omega, by omega⟩
        rintro rfl
        rw [hy] at d
        omega
    constructor
    · rintro (⟨a, b, c⟩ | ⟨a, b, c⟩)
      · exact ⟨a, by omega, c⟩
      · exact ⟨a, by omega, (eR b).mpr c⟩
    · rintro ⟨a, b, c⟩
      by_cases hy : fS V y = s
      · exact Or.inr ⟨a, hy, (eR hy).mp c⟩
      · exact Or.inl ⟨a, by omega, c⟩
  · rintro s m1 r hs ⟨s0, s1, rfl, hr, hb⟩
    obtain rfl : s = V 0 2 := by omega
    refine sX2_followersOf_4 ?_
    rw [hD.2.1]
    refine ⟨fun _ => hQ r hr (fun y y0 y1 => ?_), fun z => absurd (Int.le_refl _) z⟩
    rw [hb y y0 y1]
    exact ⟨fun z => ⟨z.1, z.2.2⟩, fun z => ⟨z.1, (flG_in hf hk y0 z.1).2.1, z.2⟩⟩
  · rw [tb_zero]
    exact ⟨fun z => absurd z (by decide), fun ⟨a, b, _⟩ => by have := (flG_in hf hk y0 a).1; omega⟩
theorem c_fewestBuses {V m : jM} {Q : Int → jM → Prop} {p : Int → Int} (hf : vKf V) (hk : vKt V) (hD : flD V m) (hp : ptK m p) (hQ : ∀ m', (∀ q, q ≠ 115 → q ≠ 116 → q ≠ 117 → q ≠ 118 → q ≠ 119 → m' q = m q) → Q (nb V (fun s => 10 * p s)) m') : ML iX2_fewestBuses [(2, 106)] m Q := by
  have t := flT_in hf hk
  have bd := fun k => grC_in (T := ((flT V).toNat : Int)) (R := fR V (fun s => 10 * p s)) k
  refine sX2_fewestBuses ?_
  refine lup (n := flT V) (I := fun x m1 => 0 ≤ x ∧ x ≤ flT V ∧ (∀ q, q ≠ 115 → q ≠ 116 → q ≠ 117 → q ≠ 118 → q ≠ 119 → m1 q = m q) ∧ ∀ z, 0 ≤ z → z < x → m1 116 z = -1 ∧ m1 117 z = -1 ∧ (0 ≤ m1 115 z ∧ m1 115 z < 262144) ∧ ∀ y, 0 ≤ y → y < 32 → (tb (m1 115 z) y = true ↔ y < flT V ∧ fR V (fun s => 10 * p s) z y)) (G := fun x m1 => GL iX2_fewestBuses m1 2 [(2, 106), (0, x), (9, 0)] [] Q) ?_ ?_ 0 m ⟨by decide, t.1, fun q _ _ _ _ _ => rfl, fun z z0 z1 => by omega⟩
  · rintro x m1 hx ⟨x0, -, f1, h1⟩ K
    have D1 : flD V m1 := flD_fr hD (by rw [f1 106 (by decide) (by decide) (by decide) (by decide) (by decide)]) (by rw [f1 106 (by decide) (by decide) (by decide) (by decide) (by decide)]) (f1 108 (by decide) (by decide) (by decide) (by decide) (by decide)) (f1 114 (by decide) (by decide) (by decide) (by decide) (by decide))
    have p1 : ptK m1 p := by
      unfold ptK at hp ⊢
      rw [f1 113 (by decide) (by decide) (by decide) (by decide) (by decide)]; exact hp
    refine sX2_fewestBuses_2 ?_
    rw [D1.1, jw_id (x := x + 1) (by omega) (by omega)]
    refine ⟨fun z => absurd z (by omega), fun _ => c_followersOf hf hk D1 p1 x0 hx (fun r hr hb => ⟨x0, by omega, x0, by omega, x0, by omega, K _ ⟨by omega, by omega, fun q a b c d e => by rw [jup_ne c, jup_ne b, jup_ne a]; exact f1 q a b c d e, fun z z0 z1 => ?_⟩⟩)⟩
    rw [jup_ne (show (116 : Int) ≠ 117 by decide), jup_self, jup_self, jup_ne (show (115 : Int) ≠ 117 by decide), jup_ne (show (115 : Int) ≠ 116 by decide), jup_self, jup_ne (show (116 : Int) ≠ 115 by decide), jup_ne (show (117 : Int) ≠ 116 by decide), jup_ne (show (117 : Int) ≠ 115 by decide)]
    by_cases e : z = x
    · rw [if_pos e, if_pos e, if_pos e, e]
      exact ⟨rfl, rfl, hr, hb⟩
    · rw [if_neg e, if_neg e, if_neg e]
      exact h1 z z0 (by omega)
  · rintro x m1 hx ⟨x0, x1, f1, h1⟩
    obtain rfl : x = flT V := by omega
    have e106 : m1 106 = m 106 := f1 106 (by decide) (by decide) (by decide) (by decide) (by decide)
    have eT : m1 106 3 = flT V := by rw [e106]; exact hD.1
    refine sX2_fewestBuses_2 ?_
    rw [eT]
    refine ⟨fun _ => ?_, fun z => absurd (Int.le_refl _) z⟩
    have eN : (((flT V).toNat : Nat) : Int) = flT V := by omega
    have fo1 : cFo (flT V) (fR V (fun s => 10 * p s)) m1 := fun z z0 z1 => (h1 z z0 z1).2.2
    refine lup2 (n := flT V) (I := fun k m2 c => 0 ≤ k ∧ k ≤ flT V ∧ (∀ q, q ≠ 116 → q ≠ 117 → q ≠ 118 → q ≠ 119 → m2 q = m1 q) ∧ c = flT V - grC (flT V) (fR V (fun s => 10 * p s)) k.toNat ∧ ∃ M, mtch (flT V) (fR V (fun s => 10 * p s)) M ∧ fM (flT V) M m2 ∧ ∀ z, 0 ≤ z → z < flT V → (grX (flT V) (fR V (fun s => 10 * p s)) k.toNat z ↔ cvr (flT V) M z)) (G := fun k m2 c => GL iX2_fewestBuses m2 48 [(2, 106), (0, c), (0, k)] [] Q) ?_ ?_ 0 m1 (flT V) ⟨by decide, t.1, fun q _ _ _ _ => rfl, by show flT V = flT V - 0; omega, fun _ => -1, ⟨fun y _ _ => Or.inl rfl, fun y y' _ _ _ _ h => absurd rfl h⟩, ⟨fun y y0 y1 => (h1 y y0 y1).2.1, fun z z0 z1 => Or.inl ⟨(h1 z z0 z1).1, fun ⟨y, _, _, e⟩ => by have e : (-1 : Int) = z := e; omega⟩⟩, fun z z0 z1 => ⟨fun h => h.elim, fun ⟨y, _, _, e⟩ => by have e : (-1 : Int) = z := e; omega⟩⟩
    · rintro k m2 c hk2 ⟨k0, -, f2, hc, M, hM, hfM, hcv⟩ K
      have b := grC_in (T := flT V) (R := fR V (fun s => 10 * p s)) k.toNat
      have fo2 : cFo (flT V) (fR V (fun s => 10 * p s)) m2 := by
        unfold cFo at fo1 ⊢
        rw [f2 115 (by decide) (by decide) (by decide) (by decide)]; exact fo1
      have nC : grC (flT V) (fR V (fun s => 10 * p s)) (k + 1).toNat = grC (flT V) (fR V (fun s => 10 * p s)) k.toNat + @ite _ (cov (flT V) (fR V (fun s => 10 * p s)) (fun z => grX (flT V) (fR V (fun s => 10 * p s)) k.toNat z ∨ z = k)) (Classical.propDecidable _) 1 0 := by
        rw [show (k + 1).toNat = k.toNat + 1 by omega]
        simp only [grC]
        rw [Int.toNat_of_nonneg k0]
      have nX : ∀ z, grX (flT V) (fR V (fun s => 10 * p s)) (k + 1).toNat z ↔ grX (flT V) (fR V (fun s => 10 * p s)) k.toNat z ∨ (z = k ∧ cov (flT V) (fR V (fun s => 10 * p s)) (fun z => grX (flT V) (fR V (fun s => 10 * p s)) k.toNat z ∨ z = k)) := by
        intro z
        rw [show (k + 1).toNat = k.toNat + 1 by omega]
        simp only [grX]
        rw [Int.toNat_of_nonneg k0]
      refine sX2_fewestBuses_48 ?_
      rw [f2 106 (by decide) (by decide) (by decide) (by decide), eT, jw_id (x := k + 1) (by omega) (by omega), jw_id (x := c + -1) (by omega) (by omega)]
      refine ⟨fun z => absurd z (by omega), fun _ => c_findFollower t.1 t.2 fo2 hM hfM (fun z hz => by have := grX_lt _ z hz; omega) hcv k0 hk2 (fun h => by have := grX_lt _ k h; omega) (fun m3 f3 fM3 hn => ⟨fun _ => K m3 c ⟨by omega, by omega, fun q a b c d => by rw [f3 q a b c d]; exact f2 q a b c d, ?_, M, hM, fM3, fun z z0 z1 => ?_⟩, fun w => absurd rfl w⟩) (fun m3 M3 f3 hM3 fM3 cv3 hy => ⟨fun w => absurd w (by decide), fun _ => K m3 _ ⟨by omega, by omega, fun q a b c d => by rw [f3 q a b c d]; exact f2 q a b c d, ?_, M3, hM3, fM3, fun z z0 z1 => ?_⟩⟩)⟩
      · rw [nC, if_neg hn]; omega
      · rw [nX, ← hcv z z0 z1]
        exact ⟨fun w => w.elim id (fun w => absurd w.2 hn), Or.inl⟩
      · rw [nC, if_pos hy]; omega
      · rw [nX, ← cv3 z z0 z1]
        exact ⟨fun w => w.elim Or.inl (fun w => Or.inr w.1), fun w => w.elim Or.inl (fun w => Or.inr ⟨w, hy⟩)⟩
    · rintro k m2 c hk2 ⟨k0, k1, f2, hc, M, hM, hfM, hcv⟩
      obtain rfl : k = flT V := by omega
      refine sX2_fewestBuses_48 ?_
      rw [f2 106 (by decide) (by decide) (by decide) (by decide), eT]
      refine ⟨fun _ => ?_, fun z => absurd (Int.le_refl _) z⟩
      have := hQ m2 (fun q a b c d e => by rw [f2 q b c d e]; exact f1 q a b c d e)
      unfold nb nbR at this
      rw [eN] at this
      rw [hc]
      exact this

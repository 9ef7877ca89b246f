/-! the reference's judge, allRoutes -/
/-- a child of one of the first n stops of a set -/
def whoN (V : jM) (s x : Int) (n : Int) (c : Int) : Prop := ∃ p, 0 ≤ p ∧ p < n ∧ tb x p = true ∧ rid V s p c
theorem whoN_s {V : jM} {s x n c : Int} (n0 : 0 ≤ n) : whoN V s x (n + 1) c ↔ whoN V s x n c ∨ (tb x n = true ∧ rid V s n c) := by
  constructor
  · rintro ⟨p, p0, p1, h⟩
    by_cases e : p = n
    · rw [e] at h; exact Or.inr h
    · exact Or.inl ⟨p, p0, by omega, h⟩
  · rintro (⟨p, p0, p1, h⟩ | h)
    · exact ⟨p, p0, by omega, h⟩
    · exact ⟨n, n0, by omega, h⟩
theorem c_judge2 {V m : jM} {Q : Int → jM → Prop} {k s x : Int} (hk : vKt V) (hf : vKf V) (hG : rG V k m) (hS : rSt V s m) (x0 : 0 < x) (x64 : x < 64) (hr : (sub6 x (srv V s) → m 197 x = dE (bh V s x (-1))) ∧ (¬ sub6 x (srv V s) → m 197 x = -1)) (hQ : ∀ m', frx [199, 200] [] m m' → (∀ y, y ≠ x → m' 199 y = m 199 y ∧ m' 200 y = m 200 y) → (m' 199 x = 0 ∨ m' 199 x = 1) → (m' 199 x = 1 ↔ gd V s x) → (gd V s x → m' 200 x = py V s x) → Q 0 m') : ML iX11_judge [(2, 139), (0, x)] m Q := by
  have tk := hf.1
  have hN := hk.1
  have rt := hG.2.2.2.2.1
  have k0 := rt.1
  have nu := rt.2.2.2.2
  have v9 := hk.2.2.2.2
  have hb := bh_in hk s (x := x) (by omega) x64 (-1)
  refine sX11_judge ?_
  refine lup3 (n := 6) (I := fun i (m1 : jM) (w : Int) (l : Int) => 0 ≤ i ∧ i ≤ 6 ∧ m1 = m ∧ (0 ≤ w ∧ w < 1048576) ∧ l = ldN V s x i.toNat ∧ (0 ≤ l ∧ l ≤ 40 * i) ∧ ∀ c, 0 ≤ c → c < 20 → (tb w c = true ↔ whoN V s x i c)) (G := fun i m1 w l => GL iX11_judge m1 7 [(2, 139), (0, x), (0, w), (0, l), (0, i), (9, 0), (9, 0)] [] Q) ?_ ?_ 0 m 0 0 ⟨by decide, by decide, rfl, by decide, rfl, by decide, fun c c0 c1 => ?_⟩
  · rintro i m1 w l hi ⟨i0, -, rfl, hw, hl, hl2, hb2⟩ K
    have q := hS.2.1 i i0 hi
    have rn := rdN_in tk.2.2.2.2.1 tk.2.2.2.2.2 s i
    have ln : ldN V s x (i + 1).toNat = ldN V s x i.toNat + if tb x i = true then stN V s i else 0 := by
      unfold ldN
      rw [show (i + 1).toNat = i.toNat + 1 by omega]
      simp only [sumN]
      rw [Int.toNat_of_nonneg i0]
    refine sX11_judge_7 ?_
    rw [jshr_bit (by omega) i0 (by omega), jw_id (x := i + 1) (by omega) (by omega), q.2.1, jw_id (x := l + stN V s i) (by omega) (by omega)]
    refine ⟨fun z => absurd z (by omega), fun _ => ⟨fun z => ?_, fun z => ?_⟩⟩
    · have hx : tb x i = true := by
        apply Classical.byContradiction
        intro y
        rw [if_neg y] at z
        exact z rfl
      have o := jor20 hw.1 hw.2 q.1.1 q.1.2
      refine ⟨i0, hi, i0, hi, K _ _ _ ⟨by omega, by omega, rfl, o.1, by rw [ln, if_pos hx, hl], by omega, fun c c0 c1 => ?_⟩⟩
      rw [o.2 c c0 c1, hb2 c c0 c1, q.2.2 c c0 c1, whoN_s i0]
      exact ⟨fun y => y.elim Or.inl (fun y => Or.inr ⟨hx, y⟩), fun y => y.elim Or.inl (fun y => Or.inr y.2)⟩
    · have hx : ¬ tb x i = true := by
        intro y
        rw [if_pos y] at z
        exact z (by decide)
      refine K _ _ _ ⟨by omega, by omega, rfl, hw, by rw [ln, if_neg hx, hl, Int.add_zero], by omega, fun c c0 c1 => ?_⟩
      rw [hb2 c c0 c1, whoN_s i0]
      exact ⟨Or.inl, fun y => y.elim id (fun y => absurd y.1 hx)⟩
  · rintro i m1 w l hi ⟨i0, i1, rfl, hw, hl, hl2, hb2⟩
    obtain rfl : i = 6 := by omega
    refine sX11_judge_7 ⟨fun _ => ?_, fun z => absurd hi z⟩
    refine lup3 (n := 20) (I := fun c (m2 : jM) (nu : Int) (pa : Int) => 0 ≤ c ∧ c ≤ 20 ∧ m2 = m1 ∧ (nu ≠ 0 ↔ ∃ a, 0 ≤ a ∧ a < c ∧ tb w a = true ∧ jand (V 14 (V 15 a)) 1 ≠ 0) ∧ (pa ≠ 0 ↔ ∃ a, 0 ≤ a ∧ a < c ∧ tb w a = true ∧ jand (m1 201 a) w ≠ 0)) (G := fun c m2 nu pa => GL iX11_judge m2 61 [(2, 139), (0, x), (0, w), (0, l), (0, nu), (0, pa), (0, c)] [] Q) ?_ ?_ 0 m1 0 0 ⟨by decide, by decide, rfl, ⟨fun z => absurd rfl z, fun ⟨a, a0, a1, _⟩ => by omega⟩, ⟨fun z => absurd rfl z, fun ⟨a, a0, a1, _⟩ => by omega⟩⟩
    · rintro c m2 n1 p1 hc ⟨c0, -, rfl, h1, h2⟩ K
      refine sX11_judge_61 ?_
      rw [jshr_bit (by omega) c0 (by omega), jw_id (x := c + 1) (by omega) (by omega)]
      have ex : ∀ (P : Int → Prop), (∃ a, 0 ≤ a ∧ a < c + 1 ∧ tb w a = true ∧ P a) ↔ (∃ a, 0 ≤ a ∧ a < c ∧ tb w a = true ∧ P a) ∨ (tb w c = true ∧ P c) := by
        intro P
        constructor
        · rintro ⟨a, a0, a1, h⟩
          by_cases e : a = c
          · rw [e] at h; exact Or.inr h
          · exact Or.inl ⟨a, a0, by omega, h⟩
        · rintro (⟨a, a0, a1, h⟩ | h)
          · exact ⟨a, a0, by omega, h⟩
          · exact ⟨c, c0, by omega, h⟩
      refine ⟨fun z => absurd z (by omega), fun _ => ⟨fun z => ?_, fun z => ?_⟩⟩
      · have hx : tb w c = true := by
          apply Classical.byContradiction
          intro y
          rw [if_neg y] at z
          exact z rfl
        obtain ⟨p, p0, p6, -, hrd⟩ := (hb2 c c0 hc).mp hx
        have c7 := hrd.2.1
        have fc := hf.2.2 c c0 c7
        have efc := hG.2.2.2.1.2.2.1 c c0 c7
        have eff := hG.2.2.2.1.2.1 _ fc.1 fc.2.1
        rw [efc, eff.2.2.2.2]
        have go : ∀ n2 p2 : Int, (n2 ≠ 0 ↔ n1 ≠ 0 ∨ jand (V 14 (V 15 c)) 1 ≠ 0) → (p2 ≠ 0 ↔ p1 ≠ 0 ∨ jand (m2 201 c) w ≠ 0) → GL iX11_judge m2 61 [(2, 139), (0, x), (0, w), (0, l), (0, n2), (0, p2), (0, c + 1)] [] Q := by
          intro n2 p2 e1 e2
          refine K m2 n2 p2 ⟨by omega, by omega, rfl, ?_, ?_⟩
          · rw [e1, ex (fun a => jand (V 14 (V 15 a)) 1 ≠ 0), h1]
            exact ⟨fun y => y.elim Or.inl (fun y => Or.inr ⟨hx, y⟩), fun y => y.elim Or.inl (fun y => Or.inr y.2)⟩
          · rw [e2, ex (fun a => jand (m2 201 a) w ≠ 0), h2]
            exact ⟨fun y => y.elim Or.inl (fun y => Or.inr ⟨hx, y⟩), fun y => y.elim Or.inl (fun y => Or.inr y.2)⟩
        refine ⟨c0, hc, fc.1, by omega, fun y => ⟨c0, hc, fun y2 => go _ _ ?_ ?_, fun y2 => go _ _ ?_ ?_⟩, fun y => ⟨c0, hc, fun y2 => go _ _ ?_ ?_, fun y2 => go _ _ ?_ ?_⟩⟩
        · exact ⟨Or.inl, fun q => q.elim id (fun q => absurd y q)⟩
        · exact ⟨Or.inl, fun q => q.elim id (fun q => absurd y2 q)⟩
        · exact ⟨Or.inl, fun q => q.elim id (fun q => absurd y q)⟩
        · exact ⟨fun _ => Or.inr y2, fun _ => by decide⟩
        · exact ⟨fun _ => Or.inr y, fun _ => by decide⟩
        · exact ⟨Or.inl, fun q => q.elim id (fun q => absurd y2 q)⟩
        · exact ⟨fun _ => Or.inr y, fun _ => by decide⟩
        · exact ⟨fun _ => Or.inr y2, fun _ => by decide⟩
      · have hx : ¬ tb w c = true := by
          intro y
          rw [if_pos y] at z
          exact z (by decide)
        refine K m2 _ _ ⟨by omega, by omega, rfl, ?_, ?_⟩
        · rw [ex (fun a => jand (V 14 (V 15 a)) 1 ≠ 0), h1]
          exact ⟨Or.inl, fun y => y.elim id (fun y => absurd y.1 hx)⟩
        · rw [ex (fun a => jand (m2 201 a) w ≠ 0), h2]
          exact ⟨Or.inl, fun y => y.elim id (fun y => absurd y.1 hx)⟩
    · rintro c m2 n1 p1 hc ⟨c0, c1, rfl, h1, h2⟩
      obtain rfl : c = 20 := by omega
      have hn : n1 ≠ 0 ↔ nrs V s x := by
        rw [h1]
        constructor
        · rintro ⟨a, a0, a1, ha, hb3⟩
          obtain ⟨p, p0, p6, hp, hrd⟩ := (hb2 a a0 a1).mp ha
          exact ⟨p, a, p0, p6, hp, hrd, hb3⟩
        · rintro ⟨p, a, p0, p6, hp, hrd, hb3⟩
          have a20 : a < 20 := by have := hrd.2.1; omega
          exact ⟨a, hrd.1, a20, (hb2 a hrd.1 a20).mpr ⟨p, p0, p6, hp, hrd⟩, hb3⟩
      have hp : p1 ≠ 0 ↔ ptd V s x := by
        rw [h2]
        constructor
        · rintro ⟨a, a0, a1, ha, hb3⟩
          have q := hS.2.2 a a0 a1
          obtain ⟨b, b0, b1, hab, hbw⟩ := (and20 q.1.1 q.1.2 hw.1 hw.2).mp hb3
          obtain ⟨p, p0, p6, hp, hrd⟩ := (hb2 a a0 a1).mp ha
          obtain ⟨p', p0', p6', hp', hrd'⟩ := (hb2 b b0 b1).mp hbw
          exact ⟨p, p', a, b, p0, p6, hp, p0', p6', hp', hrd, hrd', (q.2 b b0 b1).mp hab⟩
        · rintro ⟨p, p', a, b, p0, p6, hp, p0', p6', hp', hrd, hrd', hap⟩
          have a20 : a < 20 := by have := hrd.2.1; omega
          have b20 : b < 20 := by have := hrd'.2.1; omega
          have q := hS.2.2 a hrd.1 a20
          exact ⟨a, hrd.1, a20, (hb2 a hrd.1 a20).mpr ⟨p, p0, p6, hp, hrd⟩, (and20 q.1.1 q.1.2 hw.1 hw.2).mpr ⟨b, hrd'.1, b20, (q.2 b hrd'.1 b20).mpr hap, (hb2 b hrd'.1 b20).mpr ⟨p', p0', p6', hp', hrd'⟩⟩⟩
      have eT := hG.1.1
      have e5 := nu 5 (by decide) (by decide)
      have e6 := nu 6 (by decide) (by decide)
      have e4 := nu 4 (by decide) (by decide)
      have e1 := nu 1 (by decide) (by decide)
      have e0 := nu 0 (by decide) (by decide)
      rw [Int.add_zero] at e0
      have ll : ldN V s x 6 = l := hl.symm
      have bad : ¬ gd V s x → GL iX11_judge m2 183 [(2, 139), (0, x), (9, 0), (9, 0), (0, n1), (9, 0), (9, 0)] [(0, x), (2, 199)] Q := by
        intro hg
        have fin : ∀ y, Q 0 (jup (jup m2 199 x 0) 200 x y) := by
          intro y
          refine hQ _ (frx_upA (frx_upA frx_rf (by decide)) (by decide)) (fun z hz => ?_) (Or.inl ?_) ?_ (fun z => absurd z hg)
          · rw [jup_ne (by decide), jup_self, if_neg hz, jup_self, if_neg hz, jup_ne (by decide)]; exact ⟨rfl, rfl⟩
          · rw [jup_ne (by decide), jup_s]
          · rw [jup_ne (by decide), jup_s]
            exact ⟨fun z => absurd z (by decide), fun z => absurd z hg⟩
        refine sX11_judge_183 ?_
        rw [eT, jw_id (x := 7 * k) (by omega) (by omega), jw_id (x := 7 * k + 5) (by omega) (by omega), jw_id (x := 7 * k + 6) (by omega) (by omega), jw_id (x := 7 * k + 4) (by omega) (by omega)]
        exact ⟨by omega, x64, by omega, by omega, by omega, by omega, by omega, x64, fun _ => ⟨by omega, x64, fin _⟩, fun _ => ⟨by omega, by omega, by omega, x64, fin _⟩⟩
      refine sX11_judge_61 ⟨fun _ => ⟨by omega, x64, fun z => bad (fun g => ?_), fun z => ⟨by omega, x64, ?_⟩⟩, fun z => absurd hc z⟩
      · rw [hr.1 g.1] at z
        unfold dE at z
        have := g.2.1
        have := v9 1 (by decide) (by decide)
        split at z <;> omega
      · rw [eT, jw_id (x := 7 * k) (by omega) (by omega), jw_id (x := 7 * k + 1) (by omega) (by omega), jw_id (x := 7 * k + 5) (by omega) (by omega), jw_id (x := 7 * k + 6) (by omega) (by omega), jw_id (x := 7 * k + 4) (by omega) (by omega), e1, e0, e5, e6, e4]
        have hsub : sub6 x (srv V s) := by
          apply Classical.byContradiction
          intro y
          rw [hr.2 y] at z
          exact z (by decide)
        have hrs := hr.1 hsub
        have hrs2 : m2 197 x = bh V s x (-1) := by
          rw [hrs] at z ⊢
          unfold dE at z ⊢
          split at z
          · rename_i y; rw [if_pos y]
          · omega
        rw [hrs2]
        refine ⟨by omega, by omega, fun z2 => bad (fun g => by have := g.2.1; omega), fun z2 => ⟨by omega, by omega, fun z3 => bad (fun g => by have := g.2.2.1; omega), fun z3 => ⟨fun z4 => bad (fun g => g.2.2.2 (hp.mp z4)), fun z4 => ⟨by omega, x64, ?_⟩⟩⟩⟩
        have g : gd V s x := ⟨hsub, by omega, by omega, fun y => z4 (hp.mpr y)⟩
        have pb := py_in hk (by omega) x64 g
        have w5 := v9 5 (by decide) (by decide)
        have w4 := v9 4 (by decide) (by decide)
        rw [jw_id (x := V 9 6 * bh V s x (-1)) (by omega) (by omega), jw_id (x := V 9 5 + V 9 6 * bh V s x (-1)) (by omega) (by omega), jw_id (x := V 9 5 + V 9 6 * bh V s x (-1) + 0) (by omega) (by omega), jw_id (x := V 9 5 + V 9 6 * bh V s x (-1) + V 9 4) (by omega) (by omega)]
        have fin : ∀ y, y = py V s x → Q 0 (jup (jup m2 199 x 1) 200 x y) := by
          rintro y rfl
          refine hQ _ (frx_upA (frx_upA frx_rf (by decide)) (by decide)) (fun z hz => ?_) (Or.inr ?_) ?_ (fun _ => jup_s)
          · rw [jup_ne (by decide), jup_self, if_neg hz, jup_self, if_neg hz, jup_ne (by decide)]; exact ⟨rfl, rfl⟩
          · rw [jup_ne (by decide), jup_s]
          · rw [jup_ne (by decide), jup_s]
            exact ⟨fun _ => g, fun _ => rfl⟩
        refine ⟨by omega, by omega, by omega, by omega, by omega, x64, fun z5 => ⟨by omega, x64, fin _ ?_⟩, fun z5 => ⟨by omega, by omega, by omega, x64, fin _ ?_⟩⟩
        · unfold py
          rw [if_neg (fun y => hn.mpr y z5)]
        · unfold py
          rw [if_pos (hn.mp z5)]
  · rw [tb_zero]
    exact ⟨fun z => absurd z (by decide), fun ⟨p, p0, p1, _⟩ => by omega⟩
/-- all that allRoutes leaves -/
def rAl (V : jM) (s x : Int) (m : jM) : Prop := rlO V s x m ∧ (m 199 x = 0 ∨ m 199 x = 1) ∧ (m 199 x = 1 ↔ gd V s x) ∧ (gd V s x → m 200 x = py V s x)
theorem rlO_fr {V m m' : jM} {s x : Int} (h : rlO V s x m) (h1 : m' 197 x = m 197 x) (h2 : ∀ i, 0 ≤ i → i < 6 → m' 198 (6 * x + i) = m 198 (6 * x + i)) : rlO V s x m' := by
  refine ⟨fun z => ⟨by rw [h1]; exact (h.1 z).1, fun y i i0 i1 => ?_⟩, fun z => by rw [h1]; exact h.2 z⟩
  rw [h2 i i0 (by have := (cnt_nn x 6).2; omega)]
  exact (h.1 z).2 y i i0 i1
abbrev alFr : List Int := [195, 196, 201, 192, 193, 197, 198, 202, 199, 200]
theorem c_allRoutes {V m : jM} {Q : Int → jM → Prop} {k s : Int} (hf : vKf V) (ht : vKt V) (hd : vKd V) (hG : rG V k m) (s0 : 0 ≤ s) (s1 : s < V 0 2) (hQ : ∀ m', frx alFr [(139, 75)] m m' → rG V k m' → rSt V s m' → (∀ x, 0 < x → x < 2 ^ (V 0 3).toNat → rAl V s x m') → Q 0 m') : ML iX11_allRoutes [(2, 139), (0, s), (0, V 0 5), (0, V 0 6)] m Q := by
  have tk := hf.1
  have hN := ht.1
  have k0 := hG.2.2.2.2.1.1
  refine sX11_allRoutes (c_riders hf ht hd hG (fun m0 f0 g0 S0 => ?_))
  have e6 : (2 : Int) ^ (V 0 3).toNat ≤ 2 ^ 6 := p2le (by omega)
  have e64 : (2 : Int) ^ 6 = 64 := by decide
  refine lup (n := 2 ^ (V 0 3).toNat) (I := fun x m1 => 1 ≤ x ∧ x ≤ 2 ^ (V 0 3).toNat ∧ frx alFr [(139, 75)] m m1 ∧ rG V k m1 ∧ rSt V s m1 ∧ ∀ y, 0 < y → y < x → rAl V s y m1) (G := fun x m1 => GL iX11_allRoutes m1 10 [(2, 139), (9, 0), (9, 0), (9, 0), (0, x)] [] Q) ?_ ?_ 1 m0 ⟨by decide, ?_, frx_mono f0 (by decide) (by decide), g0, S0, fun y y0 y1 => by omega⟩
  · rintro x m1 hx ⟨x1, -, f1, g1, S1, A1⟩ K
    refine sX11_allRoutes_10 ?_
    rw [g1.1.1, g1.2.2.2.2.1.1.2.2.2.2.2.1, jshl1 _ (by omega) (by omega), jw_id (x := x + 1) (by omega) (by omega)]
    refine ⟨k0.1, k0.2.1, fun z => absurd z (by omega), fun _ => c_laid ht ⟨tk.2.2.2.2.1, tk.2.2.2.2.2⟩ g1 S1 s0 s1 (by omega) hx (fun m2 f2 o1 o2 l2 => ?_)⟩
    have g2 : rG V k m2 := rG_fr g1 (f2 139 69 (by decide) (by decide)) (f2 139 12 (by decide) (by decide)) (f2 139 44 (by decide) (by decide)) (f2 139 50 (by decide) (by decide)) (agr_of f2 (by decide))
    have S2 : rSt V s m2 := rSt_fr S1 (f2 139 75 (by decide) (by decide)) (frx_row f2 195 (by decide) (by decide)) (frx_row f2 196 (by decide) (by decide)) (frx_row f2 201 (by decide) (by decide))
    refine c_judge2 ht hf g2 S2 (by omega) (by omega) ⟨fun y => (l2.1 y).1, l2.2⟩ (fun m3 f3 o3 b3 h3 p3 => ?_)
    have g3 : rG V k m3 := rG_fr g2 (f3 139 69 (by decide) (by decide)) (f3 139 12 (by decide) (by decide)) (f3 139 44 (by decide) (by decide)) (f3 139 50 (by decide) (by decide)) (agr_of f3 (by decide))
    have S3 : rSt V s m3 := rSt_fr S2 (f3 139 75 (by decide) (by decide)) (frx_row f3 195 (by decide) (by decide)) (frx_row f3 196 (by decide) (by decide)) (frx_row f3 201 (by decide) (by decide))
    refine K m3 ⟨by omega, by omega, frx_tr f1 (frx_tr (frx_mono f2 (by decide) (by decide)) (frx_mono f3 (by decide) (by decide))), g3, S3, fun y y0 y1 => ?_⟩
    by_cases e : y = x
    · rw [e]
      exact ⟨rlO_fr l2 (by rw [frx_row f3 197 (by decide) (by decide)]) (fun i _ _ => by rw [frx_row f3 198 (by decide) (by decide)]), b3, h3, p3⟩
    · have A := A1 y y0 (by omega)
      have q := o3 y e
      refine ⟨rlO_fr A.1 (by rw [frx_row f3 197 (by decide) (by decide)]; exact o1 y e) (fun i i0 i1 => by rw [frx_row f3 198 (by decide) (by decide)]; exact o2 _ (by omega)), ?_, ?_, fun z => ?_⟩
      · rw [q.1, frx_row f2 199 (by decide) (by decide)]; exact A.2.1
      · rw [q.1, frx_row f2 199 (by decide) (by decide)]; exact A.2.2.1
      · rw [q.2, frx_row f2 200 (by decide) (by decide)]; exact A.2.2.2 z
  · rintro x m1 hx ⟨x1, x2, f1, g1, S1, A1⟩
    obtain rfl : x = 2 ^ (V 0 3).toNat := by omega
    refine sX11_allRoutes_10 ?_
    rw [g1.1.1, g1.2.2.2.2.1.1.2.2.2.2.2.1, jshl1 _ (by omega) (by omega)]
    exact ⟨k0.1, k0.2.1, fun _ => hQ m1 f1 g1 S1 A1, fun z => absurd (Int.le_refl _) z⟩
  · have : (0 : Int) < 2 ^ (V 0 3).toNat := Int.pow_pos (by decide)
    omega

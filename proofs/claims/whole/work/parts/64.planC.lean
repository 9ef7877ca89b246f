/-! the class's plan: riders, who is parted, legs -/
theorem vwG_lo {V m m' : jM} {k : Int} (h : vwG V k m) (k0 : 0 ≤ k) (k3 : k < 3) (hf : ∀ q, q < 64 → m' q = m q) : vwG V k m' :=
  vwG_fr h (fun i _ => by rw [hf 11 (by decide)]) (fun p hp => hf p (by simp only [List.mem_cons, List.not_mem_nil, or_false] at hp; omega)) (fun j j0 j1 => hf _ (by omega)) (vCf_fr h.2.1.2.2.1 (fun p hp => hf p (by simp only [List.mem_cons, List.not_mem_nil, or_false] at hp; omega)))
/-- the view has judged all -/
def jAll (V m : jM) : Prop := ∀ c, 0 ≤ c → c < V 0 7 → tb (m 11 13) c = true
def nrB (V : jM) (s i n : Int) : Prop := ∃ c, c < n ∧ rid V s i c ∧ jand (V 14 (V 15 c)) 1 ≠ 0
/-- riders, seats, stops served, stops with nurses -/
def cRd (V : jM) (s p : Int) (m : jM) : Prop := (∀ i, 0 ≤ i → i < 6 → m (p + 5) i = rdN V s i ∧ m (p + 1) i = stN V s i) ∧ m p 8 = srv V s ∧ (0 ≤ m p 9 ∧ m p 9 < 64) ∧ ∀ i, 0 ≤ i → i < 6 → (tb (m p 9) i = true ↔ nrB V s i (V 0 7))
theorem jsh0 : ∀ k : Fin 6, jshl 0 ((k : Nat) : Int) = 0 := by decide +kernel
theorem jan1 : ∀ k : Fin 4, jand ((k : Nat) : Int) 1 = 0 ∨ jand ((k : Nat) : Int) 1 = 1 := by decide +kernel
theorem or64 {x c : Int} (x0 : 0 ≤ x) (x1 : x < 64) (c0 : 0 ≤ c) (c1 : c < 6) : (0 ≤ jor x (jshl 1 c) ∧ jor x (jshl 1 c) < 64) ∧ ∀ i, 0 ≤ i → i < 32 → (tb (jor x (jshl 1 c)) i = true ↔ tb x i = true ∨ i = c) := by
  have s1 := jshl1_in (k := c) c0 (by omega)
  have s2 : jshl 1 c < 64 := by
    rw [jshl1 c c0 (by omega)]
    have : (2 : Int) ^ c.toNat ≤ 2 ^ 5 := p2le (by omega)
    omega
  refine ⟨⟨jor_nn (by omega) (by omega), jor_lt (k := 6) ⟨x0, x1⟩ ⟨by omega, s2⟩ (by decide)⟩, fun i i0 i1 => ?_⟩
  rw [tb_or (by omega) (by omega) i0 i1, tb_shl1 c0 (by omega) i0, Bool.or_eq_true, decide_eq_true_iff]
theorem jor_0 {x : Int} (x0 : 0 ≤ x) (x1 : x < 64) : jor x 0 = x := by
  refine tb_ext (jor_in _ _) (by omega) (fun i i0 i1 => ?_)
  rw [tb_or (by omega) (by omega) i0 i1, tb_zero, Bool.or_false]
theorem c_gatherRiders {V m : jM} {Q : Int → jM → Prop} {k s p : Int} (hp : jPl p) (hf : vKf V) (ht : vKt V) (hg : vwG V k m) (hj : jAll V m) (k0 : 0 ≤ k) (k3 : k < 3) (hQ : ∀ m', (∀ q, (q ≠ p ∧ q ≠ p + 1 ∧ q ≠ p + 5) → m' q = m q) → (∀ i, i ≠ 8 → i ≠ 9 → m' p i = m p i) → cRd V s p m' → Q 0 m') : ML iX3_gatherRiders [(2, p), (2, 11), (0, s)] m Q := by
  have tk := hf.1
  have hN := ht.1
  have pr : 64 ≤ p ∧ p ≤ 92 := by unfold jPl at hp; omega
  have so := srv_ok ht s
  refine sX3_gatherRiders hp (c_fill (n := 6) (atP_1 hp) (by decide) (fun m i x h => nyP_1 hp h) (c_fill (n := 6) (atP_5 hp) (by decide) (fun m i x h => nyP_5 hp h) ?_))
  generalize hm0 : jup (jup (jfill (jfill m (p + 1) ((6 : Nat) : Int) 0) (p + 5) ((6 : Nat) : Int) 0) p 8 0) p 9 0 = m0
  have f0 : ∀ q, (q ≠ p ∧ q ≠ p + 1 ∧ q ≠ p + 5) → m0 q = m q := fun q hq => by rw [← hm0, jup_ne (by omega), jup_ne (by omega), jfill_ne (by omega), jfill_ne (by omega)]
  have fp0 : ∀ i, i ≠ 8 → i ≠ 9 → m0 p i = m p i := fun i h8 h9 => by rw [← hm0, jup_self, if_neg h9, jup_self, if_neg h8, jfill_ne (by omega), jfill_ne (by omega)]
  refine lup (n := V 0 7) (I := fun c m1 => 0 ≤ c ∧ c ≤ V 0 7 ∧ (∀ q, (q ≠ p ∧ q ≠ p + 1 ∧ q ≠ p + 5) → m1 q = m q) ∧ (∀ i, i ≠ 8 → i ≠ 9 → m1 p i = m p i) ∧ (∀ i, 0 ≤ i → i < 6 → m1 (p + 5) i = sumN (rdF V s i) c.toNat ∧ m1 (p + 1) i = sumN (stF V s i) c.toNat) ∧ ((0 ≤ m1 p 8 ∧ m1 p 8 < 64) ∧ ∀ i, 0 ≤ i → i < 6 → (tb (m1 p 8) i = true ↔ ∃ x, x < c ∧ rid V s i x)) ∧ (0 ≤ m1 p 9 ∧ m1 p 9 < 64) ∧ ∀ i, 0 ≤ i → i < 6 → (tb (m1 p 9) i = true ↔ nrB V s i c)) (G := fun c m1 => GL iX3_gatherRiders m1 28 [(2, p), (2, 11), (0, s), (0, c), (9, 0), (9, 0), (9, 0)] [] Q) ?_ ?_ 0 m0 ⟨by decide, by omega, f0, fp0, fun i i0 i1 => ?_, ⟨?_, fun i i0 i1 => ?_⟩, ?_, fun i i0 i1 => ?_⟩
  · rintro c m1 hc ⟨c0, -, f1, fp1, h1, ⟨h2, h2b⟩, h3, h3b⟩ K
    have g1 := vwG_lo hg k0 k3 (fun q hq => f1 q (by omega))
    have fc := hf.2.2 c c0 hc
    have ec := g1.2.1.2.2.1.2.2 c c0 hc
    have ef := g1.2.1.2.2.1.2.1 _ fc.1 fc.2.1
    have e22 : m1 22 c = vStp V c := by rw [f1 22 (by omega)]; exact (hg.2.2.2.2.2 c c0 hc (hj c c0 hc)).2
    have e6 : m1 11 6 = V 0 7 := g1.2.1.1.2.2.2
    have st := vStp_in ht c
    have hfv := (hf.2.1 _ fc.1 fc.2.1).1
    have nd : 0 ≤ V 14 (V 15 c) ∧ V 14 (V 15 c) < 4 := by unfold fcVal at hfv; omega
    have sR : ∀ i, sumN (rdF V s i) (c + 1).toNat = sumN (rdF V s i) c.toNat + rdF V s i c := by
      intro i
      rw [show (c + 1).toNat = c.toNat + 1 by omega]
      simp only [sumN]
      rw [Int.toNat_of_nonneg c0]
    have sS : ∀ i, sumN (stF V s i) (c + 1).toNat = sumN (stF V s i) c.toNat + stF V s i c := by
      intro i
      rw [show (c + 1).toNat = c.toNat + 1 by omega]
      simp only [sumN]
      rw [Int.toNat_of_nonneg c0]
    have ex : ∀ i (P : Int → Prop), (∃ x, x < c + 1 ∧ rid V s i x ∧ P x) ↔ (∃ x, x < c ∧ rid V s i x ∧ P x) ∨ (rid V s i c ∧ P c) := by
      intro i P
      constructor
      · rintro ⟨x, x1, h⟩
        by_cases e : x = c
        · rw [e] at h; exact Or.inr h
        · exact Or.inl ⟨x, by omega, h⟩
      · rintro (⟨x, x1, h⟩ | h)
        · exact ⟨x, by omega, h⟩
        · exact ⟨c, by omega, h⟩
    have ex1 : ∀ i, (∃ x, x < c + 1 ∧ rid V s i x) ↔ (∃ x, x < c ∧ rid V s i x) ∨ rid V s i c := by
      intro i
      have := ex i (fun _ => True)
      simpa using this
    have skip : (∀ i, 0 ≤ i → ¬ rid V s i c) → GL iX3_gatherRiders m1 28 [(2, p), (2, 11), (0, s), (0, c + 1), (9, 0), (9, 0), (9, 0)] [] Q := by
      intro hno
      refine K m1 ⟨by omega, by omega, f1, fp1, fun i i0 i1 => ?_, ⟨h2, fun i i0 i1 => ?_⟩, h3, fun i i0 i1 => ?_⟩
      · have z1 : rdF V s i c = 0 := by unfold rdF; rw [if_neg (fun y => hno i i0 ⟨c0, hc, y.1, y.2⟩)]
        have z2 : stF V s i c = 0 := by unfold stF; rw [if_neg (fun y => hno i i0 ⟨c0, hc, y.1, y.2⟩)]
        rw [sR, sS, z1, z2, Int.add_zero, Int.add_zero]
        exact h1 i i0 i1
      · rw [h2b i i0 i1, ex1]
        exact ⟨Or.inl, fun y => y.elim id (fun y => absurd y (hno i i0))⟩
      · rw [h3b i i0 i1]
        unfold nrB
        rw [ex i (fun x => jand (V 14 (V 15 x)) 1 ≠ 0)]
        exact ⟨Or.inl, fun y => y.elim id (fun y => absurd y.1 (hno i i0))⟩
    refine sX3_gatherRiders_28 hp ?_
    rw [e6, e22, ec, ef.2.2.1, ef.2.2.2.2.1, jw_id (x := c + 1) (by omega) (by omega)]
    refine ⟨fun z => absurd z (by omega), fun _ => ⟨c0, by omega, c0, by omega, fun z => skip (fun i i0 y => by have := y.2.2.2; omega), fun z => ⟨fc.1, by omega, fun z2 => skip (fun i i0 y => z2 y.2.2.1), fun z2 => ?_⟩⟩⟩
    have hs : V 12 (V 15 c) = s := Classical.byContradiction z2
    have r0 := h1 (vStp V c) (by omega) (by omega)
    have b1 := sumN_ge (f := rdF V s (vStp V c)) (L := 0) c.toNat (fun i _ _ => by unfold rdF; split <;> omega)
    have b2 := sumN_le (f := rdF V s (vStp V c)) (L := 1) c.toNat (fun i _ _ => by unfold rdF; split <;> omega)
    have b3 := sumN_ge (f := stF V s (vStp V c)) (L := 0) c.toNat (fun i _ _ => by unfold stF; split <;> (try split) <;> omega)
    have b4 := sumN_le (f := stF V s (vStp V c)) (L := 2) c.toNat (fun i _ _ => by unfold stF; split <;> (try split) <;> omega)
    have o2 := or64 h2.1 h2.2 (c := vStp V c) (by omega) (by omega)
    have put : ∀ w : Int, w = stF V s (vStp V c) c → GL iX3_gatherRiders (jup (jup (jup (jup m1 (p + 5) (vStp V c) (m1 (p + 5) (vStp V c) + 1)) (p + 1) (vStp V c) (m1 (p + 1) (vStp V c) + w)) p 8 (jor (m1 p 8) (jshl 1 (vStp V c)))) p 9 (jor (m1 p 9) (jshl (jand (V 14 (V 15 c)) 1) (vStp V c)))) 28 [(2, p), (2, 11), (0, s), (0, c + 1), (9, 0), (9, 0), (9, 0)] [] Q := by
      rintro w rfl
      have hnb : (0 ≤ jor (m1 p 9) (jshl (jand (V 14 (V 15 c)) 1) (vStp V c)) ∧ jor (m1 p 9) (jshl (jand (V 14 (V 15 c)) 1) (vStp V c)) < 64) ∧ ∀ i, 0 ≤ i → i < 32 → (tb (jor (m1 p 9) (jshl (jand (V 14 (V 15 c)) 1) (vStp V c))) i = true ↔ tb (m1 p 9) i = true ∨ (i = vStp V c ∧ jand (V 14 (V 15 c)) 1 ≠ 0)) := by
        have j1 := jan1 ⟨(V 14 (V 15 c)).toNat, by omega⟩
        simp only [Int.toNat_of_nonneg nd.1] at j1
        rcases j1 with j1 | j1
        · have j0 := jsh0 ⟨(vStp V c).toNat, by omega⟩
          simp only [Int.toNat_of_nonneg (show 0 ≤ vStp V c by omega)] at j0
          rw [j1, j0, jor_0 h3.1 h3.2]
          exact ⟨h3, fun i i0 i1 => ⟨Or.inl, fun y => y.elim id (fun y => absurd rfl y.2)⟩⟩
        · have o3 := or64 h3.1 h3.2 (c := vStp V c) (by omega) (by omega)
          rw [j1]
          exact ⟨o3.1, fun i i0 i1 => by rw [o3.2 i i0 i1]; exact ⟨fun y => y.elim Or.inl (fun y => Or.inr ⟨y, by decide⟩), fun y => y.elim Or.inl (fun y => Or.inr y.1)⟩⟩
      refine K _ ⟨by omega, by omega, fun q hq => by rw [jup_ne (by omega), jup_ne (by omega), jup_ne (by omega), jup_ne (by omega)]; exact f1 q hq, fun i h8 h9 => by rw [jup_self, if_neg h9, jup_self, if_neg h8, jup_ne (by omega), jup_ne (by omega)]; exact fp1 i h8 h9, fun i i0 i1 => ?_, ⟨?_, fun i i0 i1 => ?_⟩, ?_, fun i i0 i1 => ?_⟩
      · rw [jup_ne (by omega), jup_ne (by omega), jup_ne (by omega), jup_self, jup_ne (by omega), jup_ne (by omega), jup_self, jup_ne (by omega), sR, sS]
        have q := h1 i i0 i1
        by_cases e : i = vStp V c
        · rw [if_pos e, if_pos e, e, r0.1, r0.2]
          refine ⟨?_, rfl⟩
          have : rdF V s (vStp V c) c = 1 := by unfold rdF; rw [if_pos ⟨hs, rfl⟩]
          omega
        · have z1 : rdF V s i c = 0 := by unfold rdF; rw [if_neg (fun y => e y.2.symm)]
          have z2 : stF V s i c = 0 := by unfold stF; rw [if_neg (fun y => e y.2.symm)]
          rw [if_neg e, if_neg e, z1, z2, Int.add_zero, Int.add_zero]
          exact q
      · rw [jup_self, if_neg (by decide), jup_s]; exact o2.1
      · rw [jup_self, if_neg (by decide), jup_s, o2.2 i i0 (by omega), h2b i i0 i1, ex1]
        constructor
        · rintro (y | y)
          · exact Or.inl y
          · exact Or.inr ⟨c0, hc, hs, y.symm⟩
        · rintro (y | y)
          · exact Or.inl y
          · exact Or.inr y.2.2.2.symm
      · rw [jup_s]; exact hnb.1
      · rw [jup_s, hnb.2 i i0 (by omega), h3b i i0 i1]
        unfold nrB
        rw [ex i (fun x => jand (V 14 (V 15 x)) 1 ≠ 0)]
        constructor
        · rintro (y | y)
          · exact Or.inl y
          · exact Or.inr ⟨⟨c0, hc, hs, y.1.symm⟩, y.2⟩
        · rintro (y | y)
          · exact Or.inl y
          · exact Or.inr ⟨y.1.2.2.2.symm, y.2⟩
    rw [jw_id (x := m1 (p + 5) (vStp V c) + 1) (by omega) (by omega), jw_id (x := m1 (p + 1) (vStp V c) + 1) (by omega) (by omega), jw_id (x := m1 (p + 1) (vStp V c) + 2) (by omega) (by omega)]
    refine ⟨fc.1, by omega, by omega, by omega, by omega, by omega, by omega, by omega, fun y => ⟨by omega, by omega, put 1 ?_⟩, fun y => ⟨by omega, by omega, put 2 ?_⟩⟩
    · unfold stF; rw [if_pos ⟨hs, rfl⟩, if_pos y]
    · unfold stF; rw [if_pos ⟨hs, rfl⟩, if_neg y]
  · rintro c m1 hc ⟨c0, c1, f1, fp1, h1, ⟨h2, h2b⟩, h3, h3b⟩
    obtain rfl : c = V 0 7 := by omega
    have g1 := vwG_lo hg k0 k3 (fun q hq => f1 q (by omega))
    have e6 : m1 11 6 = V 0 7 := g1.2.1.1.2.2.2
    refine sX3_gatherRiders_28 hp ?_
    rw [e6]
    refine ⟨fun _ => hQ m1 f1 fp1 ⟨fun i i0 i1 => h1 i i0 i1, ?_, h3, h3b⟩, fun z => absurd (Int.le_refl _) z⟩
    refine tb_ext2 (k := 6) (by decide) ⟨h2.1, h2.2⟩ ⟨so.1, so.2.1⟩ (fun i i0 i1 => ?_)
    have i1 : i < 6 := i1
    apply Bool.eq_iff_iff.mpr
    rw [h2b i i0 i1, so.2.2.2 i i0 (by omega), rdN_iff tk.2.2.2.2.1]
    constructor
    · rintro ⟨x, x1, h⟩
      have := vStp_in ht x
      have := h.2.2.2
      exact ⟨by omega, x, h⟩
    · rintro ⟨-, x, h⟩
      exact ⟨x, h.2.1, h⟩
  · rw [← hm0, jup_ne (by omega), jup_ne (by omega), jfill_at i0 (show i < ((6 : Nat) : Int) from i1), jup_ne (by omega), jup_ne (by omega), jfill_ne (by omega), jfill_at i0 (show i < ((6 : Nat) : Int) from i1)]
    exact ⟨rfl, rfl⟩
  · rw [← hm0, jup_self, if_neg (by decide), jup_s]; decide
  · rw [← hm0, jup_self, if_neg (by decide), jup_s, tb_zero]
    exact ⟨fun z => absurd z (by decide), fun ⟨x, x1, h⟩ => by have := h.1; omega⟩
  · rw [← hm0, jup_s]; decide
  · rw [← hm0, jup_s, tb_zero]
    exact ⟨fun z => absurd z (by decide), fun ⟨x, x1, h, _⟩ => by have := h.1; omega⟩
/-- a rider at i is parted from one at q, told of i first -/
def pAs (V : jM) (s n i q : Int) : Prop := ∃ f, 0 ≤ f ∧ f < n ∧ V 10 f = 4 ∧ vLv V f ∧ rid V s i (V 11 f) ∧ rid V s q (V 12 f)
theorem pAs_s {V : jM} {s n i q : Int} (n0 : 0 ≤ n) : pAs V s (n + 1) i q ↔ pAs V s n i q ∨ (V 10 n = 4 ∧ vLv V n ∧ rid V s i (V 11 n) ∧ rid V s q (V 12 n)) := by
  constructor
  · rintro ⟨f, f0, f1, h⟩
    by_cases e : f = n
    · rw [e] at h; exact Or.inr h
    · exact Or.inl ⟨f, f0, by omega, h⟩
  · rintro (⟨f, f0, f1, h⟩ | h)
    · exact ⟨f, f0, by omega, h⟩
    · exact ⟨n, n0, by omega, h⟩
def cAp (V : jM) (s p n : Int) (m : jM) : Prop := ∀ i, 0 ≤ i → i < 6 → (0 ≤ m (p + 6) i ∧ m (p + 6) i < 64) ∧ ∀ q, 0 ≤ q → q < 6 → (tb (m (p + 6) i) q = true ↔ pAs V s n i q)
theorem c_riderStop {V m : jM} {Q : Int → jM → Prop} {k s c : Int} (hf : vKf V) (ht : vKt V) (hg : vwG V k m) (hj : jAll V m) (c0 : 0 ≤ c) (c1 : c < V 0 7) (hQ : Q (if V 12 (V 15 c) = s then vStp V c else -1) m) : ML iX3_riderStop [(2, 11), (0, s), (0, c)] m Q := by
  have tk := hf.1
  have fc := hf.2.2 c c0 c1
  have ec := hg.2.1.2.2.1.2.2 c c0 c1
  have ef := hg.2.1.2.2.1.2.1 _ fc.1 fc.2.1
  have e22 : m 22 c = vStp V c := (hg.2.2.2.2.2 c c0 c1 (hj c c0 c1)).2
  refine sX3_riderStop ?_
  rw [ec, ef.2.2.1, e22]
  refine ⟨c0, by omega, fc.1, by omega, fun z => ?_, fun z => ⟨c0, by omega, ?_⟩⟩
  · rw [if_neg z] at hQ; exact hQ
  · rw [if_pos (Classical.byContradiction z)] at hQ; exact hQ
theorem c_gatherParted {V m : jM} {Q : Int → jM → Prop} {k s p : Int} (hp : jPl p) (hf : vKf V) (ht : vKt V) (hg : vwG V k m) (hj : jAll V m) (k0 : 0 ≤ k) (k3 : k < 3) (hQ : ∀ m', (∀ q, q ≠ p + 6 → m' q = m q) → cAp V s p (V 0 6) m' → Q 0 m') : ML iX3_gatherParted [(2, p), (2, 11), (0, s)] m Q := by
  have tk := hf.1
  have hN := ht.1
  have pr : 64 ≤ p ∧ p ≤ 92 := by unfold jPl at hp; omega
  refine sX3_gatherParted hp (c_fill (n := 6) (atP_6 hp) (by decide) (fun m i x h => nyP_6 hp h) ?_)
  refine lup (n := V 0 6) (I := fun f m1 => 0 ≤ f ∧ f ≤ V 0 6 ∧ (∀ q, q ≠ p + 6 → m1 q = m q) ∧ cAp V s p f m1) (G := fun f m1 => GL iX3_gatherParted m1 10 [(2, p), (2, 11), (0, s), (0, f), (9, 0), (9, 0)] [] Q) ?_ ?_ 0 _ ⟨by decide, by omega, fun q hq => jfill_ne hq, fun i i0 i1 => ?_⟩
  · rintro f m1 hfl ⟨f0, -, f1, h1⟩ K
    have g1 := vwG_lo hg k0 k3 (fun q hq => f1 q (by omega))
    have j1 : jAll V m1 := fun c c0 c1 => by rw [f1 11 (by omega)]; exact hj c c0 c1
    have e4 : m1 11 4 = V 0 6 := g1.2.1.1.2.2.1
    have ef := g1.2.1.2.2.1.2.1 f f0 hfl
    have kf := hf.2.1 f f0 hfl
    have same : ¬ (V 10 f = 4 ∧ vLv V f ∧ V 12 (V 15 (V 11 f)) = s ∧ vStp V (V 11 f) ≠ -1 ∧ V 12 (V 15 (V 12 f)) = s ∧ vStp V (V 12 f) ≠ -1) → GL iX3_gatherParted m1 10 [(2, p), (2, 11), (0, s), (0, f + 1), (9, 0), (9, 0)] [] Q := by
      intro hno
      refine K m1 ⟨by omega, by omega, f1, fun i i0 i1 => ⟨(h1 i i0 i1).1, fun q q0 q1 => ?_⟩⟩
      rw [(h1 i i0 i1).2 q q0 q1, pAs_s f0]
      refine ⟨Or.inl, fun y => y.elim id (fun y => absurd ⟨y.1, y.2.1, y.2.2.1.2.2.1, ?_, y.2.2.2.2.2.1, ?_⟩ hno)⟩
      · have := y.2.2.1.2.2.2; omega
      · have := y.2.2.2.2.2.2; omega
    refine sX3_gatherParted_10 hp ?_
    rw [e4, jw_id (x := f + 1) (by omega) (by omega)]
    refine ⟨fun z => absurd z (by omega), fun _ => c_isKnownF g1.2.1.2.2.1 f0 hfl (fun r h r0 => ⟨fun z => same (fun y => by have := h ⟨y.1, y.2.1⟩; omega), fun z => ?_⟩)⟩
    have hkl : V 10 f = 4 ∧ vLv V f := Classical.byContradiction (fun y => z (r0 y))
    have kb := kf.2 hkl.1
    have kf1 := kf.1
    unfold fcVal at kf1
    have eb : 0 ≤ V 11 f ∧ 0 ≤ V 12 f := by omega
    rw [ef.2.1]
    refine ⟨f0, by omega, c_riderStop hf ht g1 j1 eb.1 kb.1 ⟨f0, by omega, ?_⟩⟩
    rw [ef.2.2.1]
    refine c_riderStop hf ht g1 j1 eb.2 kb.2 ?_
    generalize hA : V 11 f = A at *
    generalize hB : V 12 f = B at *
    have sA := vStp_in ht A
    have sB := vStp_in ht B
    refine ⟨fun y => same (fun w => ?_), fun y => ⟨fun y2 => same (fun w => ?_), fun y2 => ?_⟩⟩
    · rw [if_pos w.2.2.1] at y; exact w.2.2.2.1 y
    · rw [if_pos w.2.2.2.2.1] at y2; exact w.2.2.2.2.2 y2
    · have a1 : V 12 (V 15 A) = s := by
        apply Classical.byContradiction
        intro w
        rw [if_neg w] at y
        exact y rfl
      have b1 : V 12 (V 15 B) = s := by
        apply Classical.byContradiction
        intro w
        rw [if_neg w] at y2
        exact y2 rfl
      rw [if_pos a1] at y ⊢
      rw [if_pos b1] at y2 ⊢
      have hA6 := h1 (vStp V A) (by omega) (by omega)
      have o := or64 hA6.1.1 hA6.1.2 (c := vStp V B) (by omega) (by omega)
      refine ⟨by omega, by omega, by omega, by omega, K _ ⟨by omega, by omega, fun q hq => by rw [jup_ne hq]; exact f1 q hq, fun i i0 i1 => ?_⟩⟩
      have q := h1 i i0 i1
      rw [jup_self]
      by_cases e : i = vStp V A
      · rw [if_pos e, e]
        refine ⟨o.1, fun w w0 w1 => ?_⟩
        rw [o.2 w w0 (by omega), hA6.2 w w0 w1, pAs_s f0, hA, hB]
        constructor
        · rintro (x | x)
          · exact Or.inl x
          · exact Or.inr ⟨hkl.1, hkl.2, ⟨eb.1, kb.1, a1, rfl⟩, eb.2, kb.2, b1, x.symm⟩
        · rintro (x | x)
          · exact Or.inl x
          · exact Or.inr x.2.2.2.2.2.2.symm
      · rw [if_neg e]
        refine ⟨q.1, fun w w0 w1 => ?_⟩
        rw [q.2 w w0 w1, pAs_s f0, hA, hB]
        exact ⟨Or.inl, fun x => x.elim id (fun x => absurd x.2.2.1.2.2.2.symm e)⟩
  · rintro f m1 hfl ⟨f0, f6, f1, h1⟩
    obtain rfl : f = V 0 6 := by omega
    have e4 : m1 11 4 = V 0 6 := by rw [f1 11 (by omega)]; exact hg.2.1.1.2.2.1
    refine sX3_gatherParted_10 hp ?_
    rw [e4]
    exact ⟨fun _ => hQ m1 f1 h1, fun z => absurd (Int.le_refl _) z⟩
  · rw [jfill_at i0 (show i < ((6 : Nat) : Int) from i1)]
    refine ⟨by decide, fun q q0 q1 => ?_⟩
    rw [tb_zero]
    exact ⟨fun z => absurd z (by decide), fun ⟨f, f0, f1, _⟩ => by omega⟩

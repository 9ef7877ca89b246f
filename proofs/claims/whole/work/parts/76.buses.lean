/-! the class's fewest buses -/
theorem jbcP : ∀ s : Fin 18, jbc (jw (2 ^ (s : Nat) - 1)) = ((s : Nat) : Int) := by decide +kernel
theorem lw18 {x : Int} (x0 : 0 < x) (x1 : x < 262144) : (0 ≤ low x ∧ low x < 18 ∧ tb x (low x) = true) ∧ jbc (jw (jand x (jw (-x)) - 1)) = low x ∧ (0 ≤ jand x (jw (x - 1)) ∧ jand x (jw (x - 1)) < 262144) ∧ (∀ i, 0 ≤ i → i < 32 → (tb (jand x (jw (x - 1))) i = true ↔ tb x i = true ∧ i ≠ low x)) ∧ cnt (jand x (jw (x - 1))) 18 + 1 = cnt x 18 := by
  have hs := low_lsb x0 (by omega)
  have hl : low x < 18 := by
    apply Classical.byContradiction
    intro z
    have := hs.2.1
    rw [tb_lt (k := 18) (by omega) (by simpa using x1) (by decide) (by omega)] at this
    exact absurd this (by decide)
  have e1 : jw (-x) = -x := jw_neg (by omega) (by omega)
  have e2 : jw (x - 1) = x - 1 := jw_id (by omega) (by omega)
  have bits : ∀ i, 0 ≤ i → i < 32 → (tb (jand x (x - 1)) i = true ↔ tb x i = true ∧ i ≠ low x) := by
    intro i i0 i1
    have hn : tb (x - 1) i = !tb (-x) i := by
      have := tb_neg (a := -x) (i := i)
      rw [show - -x - 1 = x - 1 by omega] at this
      exact this
    have hlow := tb_low hs i0
    rw [tb_and (by omega) (by omega) i0 i1, hn]
    by_cases e : i = low x
    · rw [e] at hlow ⊢
      rw [decide_eq_true rfl] at hlow
      simp only [Bool.and_eq_true] at hlow
      rw [hlow.1, hlow.2]
      simp
    · rw [decide_eq_false e] at hlow
      cases h : tb x i with
      | false => simp
      | true =>
        rw [h] at hlow
        simp only [Bool.true_and] at hlow
        rw [hlow]
        simp [e]
  rw [e1, e2, jand_low (by omega) (by omega) hs]
  have jb := jbcP ⟨(low x).toNat, by omega⟩
  simp only [Int.toNat_of_nonneg hs.1] at jb
  refine ⟨⟨hs.1, hl, hs.2.1⟩, jb, ⟨jand_nn (by omega) (by omega), ?_⟩, bits, ?_⟩
  · have := jand_lt (k := 18) (a := x) (b := x - 1) (by omega) (by omega) (by decide) (by simpa using x1)
    simpa using this
  · unfold cnt
    have := sumN_up (f := fun i => if tb x i = true then 1 else 0) (g := fun i => if tb (jand x (x - 1)) i = true then 1 else 0) (j := low x) 18 hs.1 (by omega) (fun i i0 i1 hi => by
      have b := bits i i0 (by omega)
      by_cases h : tb x i = true
      · simp only [h, b.mpr ⟨h, hi⟩, if_true]
      · have : ¬ tb (jand x (x - 1)) i = true := fun z => h (b.mp z).1
        simp only [h, this, if_false])
    rw [this]
    have b := bits (low x) hs.1 (by omega)
    have h1 : ¬ tb (jand x (x - 1)) (low x) = true := fun z => (b.mp z).2 rfl
    simp only [hs.2.1, if_true]
    rw [if_neg h1]
    omega
theorem cnt18 (x : Int) : cnt x 18 ≤ 18 := (cnt_nn x 18).2
theorem jan18 {a b : Int} (a0 : 0 ≤ a) (a1 : a < 262144) (b0 : 0 ≤ b) (b1 : b < 262144) : (0 ≤ jand a (jxor b (-1)) ∧ jand a (jxor b (-1)) < 262144) ∧ ∀ i, 0 ≤ i → i < 32 → (tb (jand a (jxor b (-1))) i = true ↔ tb a i = true ∧ ¬ tb b i = true) := by
  have h1 := jand_lt (k := 18) (a := a) (b := jxor b (-1)) (by omega) (jxor_in _ _) (by decide) (by simpa using a1)
  refine ⟨⟨jand_nn (by omega) (jxor_in _ _), by simpa using h1⟩, fun i i0 i1 => ?_⟩
  rw [tb_and (by omega) (jxor_in _ _) i0 i1, tb_not (by omega), Bool.and_eq_true]
  cases tb b i <;> simp
theorem jor18 {a b : Int} (a0 : 0 ≤ a) (a1 : a < 262144) (b0 : 0 ≤ b) (b1 : b < 262144) : (0 ≤ jor a b ∧ jor a b < 262144) ∧ ∀ i, 0 ≤ i → i < 32 → (tb (jor a b) i = true ↔ tb a i = true ∨ tb b i = true) := by
  have h1 := jor_lt (k := 18) (a := a) (b := b) ⟨a0, by simpa using a1⟩ ⟨b0, by simpa using b1⟩ (by decide)
  refine ⟨⟨jor_nn (by omega) (by omega), by simpa using h1⟩, fun i i0 i1 => ?_⟩
  rw [tb_or (by omega) (by omega) i0 i1, Bool.or_eq_true]
/-- the followers' rows -/
def cFo (T : Int) (R : Int → Int → Prop) (m : jM) : Prop := ∀ x, 0 ≤ x → x < T → (0 ≤ m 115 x ∧ m 115 x < 262144) ∧ ∀ y, 0 ≤ y → y < 32 → (tb (m 115 x) y = true ↔ y < T ∧ R x y)
theorem c_findFollower {m : jM} {Q : Int → jM → Prop} {T x : Int} {R : Int → Int → Prop} {M : Int → Int} {X : Int → Prop} (T0 : 0 ≤ T) (T18 : T ≤ 18) (hfo : cFo T R m) (hM : mtch T R M) (hf : fM T M m) (hX : ∀ z, X z → 0 ≤ z ∧ z < T) (hXM : ∀ z, 0 ≤ z → z < T → (X z ↔ cvr T M z)) (x0 : 0 ≤ x) (x1 : x < T) (hnx : ¬ X x) (hno : ∀ m', (∀ p, p ≠ 116 → p ≠ 117 → p ≠ 118 → p ≠ 119 → m' p = m p) → fM T M m' → ¬ cov T R (fun z => X z ∨ z = x) → Q 0 m') (hQ : ∀ m' M', (∀ p, p ≠ 116 → p ≠ 117 → p ≠ 118 → p ≠ 119 → m' p = m p) → mtch T R M' → fM T M' m' → (∀ z, 0 ≤ z → z < T → (X z ∨ z = x ↔ cvr T M' z)) → cov T R (fun z => X z ∨ z = x) → Q 1 m') : ML iX2_findFollower [(2, 106), (0, x)] m Q := by
  have ux : ¬ cvr T M x := fun h => hnx ((hXM x x0 x1).mpr h)
  refine sX2_findFollower ?_
  -- what stands at the outer head
  let O : Int → Int → Int → Int → jM → Prop := fun tail hd r o m1 => (∀ p, p ≠ 118 → p ≠ 119 → m1 p = m p) ∧ m1 119 0 = x ∧ 1 ≤ tail ∧ (0 ≤ r ∧ r < 262144) ∧ (∀ i, 0 ≤ i → i < tail → 0 ≤ m1 119 i ∧ m1 119 i < T) ∧ (∀ i j, 0 ≤ i → i < j → j < tail → m1 119 i ≠ m1 119 j) ∧ (∀ y, 0 ≤ y → y < 32 → tb r y = true → y < T) ∧ (∀ y, 0 ≤ y → y < T → tb r y = true → ¬ tb o y = true → M y ≠ -1 ∧ ∃ i, 0 < i ∧ i < tail ∧ m1 119 i = M y) ∧ (∀ i, 0 < i → i < tail → ∃ y j, 0 ≤ y ∧ y < T ∧ tb r y = true ∧ ¬ tb o y = true ∧ M y = m1 119 i ∧ 0 ≤ j ∧ j < i ∧ m1 118 y = m1 119 j ∧ R (m1 119 j) y) ∧ ∀ i, 0 ≤ i → i < hd → i < tail → ∀ y, 0 ≤ y → y < T → R (m1 119 i) y → tb r y = true
  have hO : ∀ tail hd r o m1, O tail hd r o m1 ↔ ((∀ p, p ≠ 118 → p ≠ 119 → m1 p = m p) ∧ m1 119 0 = x ∧ 1 ≤ tail ∧ (0 ≤ r ∧ r < 262144) ∧ (∀ i, 0 ≤ i → i < tail → 0 ≤ m1 119 i ∧ m1 119 i < T) ∧ (∀ i j, 0 ≤ i → i < j → j < tail → m1 119 i ≠ m1 119 j) ∧ (∀ y, 0 ≤ y → y < 32 → tb r y = true → y < T) ∧ (∀ y, 0 ≤ y → y < T → tb r y = true → ¬ tb o y = true → M y ≠ -1 ∧ ∃ i, 0 < i ∧ i < tail ∧ m1 119 i = M y) ∧ (∀ i, 0 < i → i < tail → ∃ y j, 0 ≤ y ∧ y < T ∧ tb r y = true ∧ ¬ tb o y = true ∧ M y = m1 119 i ∧ 0 ≤ j ∧ j < i ∧ m1 118 y = m1 119 j ∧ R (m1 119 j) y) ∧ ∀ i, 0 ≤ i → i < hd → i < tail → ∀ y, 0 ≤ y → y < T → R (m1 119 i) y → tb r y = true) := fun _ _ _ _ _ => Iff.rfl
  have key : ∀ (n : Nat) (hd tail r : Int) (m1 : jM), 19 - hd < n → 0 ≤ hd → hd ≤ tail → O tail hd r 0 m1 → GL iX2_findFollower m1 14 [(2, 106), (9, 0), (0, r), (0, tail), (0, hd), (9, 0), (9, 0), (9, 0)] [] Q := by
    intro n
    induction n with
    | zero =>
      intro hd tail r m1 hn h0 h1 hO1
      obtain ⟨f1, q0, t1, r1, hq, hdist, hb, ha, hc, hd1⟩ := (hO _ _ _ _ _).mp hO1
      have tT := inj_le T0 hq hdist
      omega
    | succ n ih =>
      intro hd tail r m1 hn h0 h1 hO1
      obtain ⟨f1, q0, t1, r1, hq, hdist, hb, ha, hc, hd1⟩ := (hO _ _ _ _ _).mp hO1
      have tT := inj_le T0 hq hdist
      have fM1 : fM T M m1 := by
        unfold fM at hf ⊢
        rw [f1 117 (by decide) (by decide), f1 116 (by decide) (by decide)]
        exact hf
      refine sX2_findFollower_14 ⟨fun z => ?_, fun z => ⟨fun z2 => absurd z2 (by omega), fun _ => ?_⟩⟩
      · -- all is looked at
        refine hno m1 (fun p h116 h117 h118 h119 => f1 p h118 h119) fM1 ?_
        obtain ⟨N, rfl⟩ : ∃ N : Nat, T = N := ⟨T.toNat, by omega⟩
        refine hall (L := fun l => ∃ i, 0 ≤ i ∧ i < tail ∧ m1 119 i = l) hM ⟨0, by decide, by omega, q0⟩ (fun l hl => ?_) (fun l y hl y0 y1 hR => ?_)
        · obtain ⟨i, i0, i1, rfl⟩ := hl
          have := hq i i0 i1
          refine ⟨this.1, this.2, ?_⟩
          by_cases e : i = 0
          · rw [e]; exact Or.inl q0
          · obtain ⟨y, j, a0, a1, -, -, a2, -⟩ := hc i (by omega) i1
            exact Or.inr ((hXM _ this.1 this.2).mpr ⟨y, a0, a1, a2⟩)
        · obtain ⟨i, i0, i1, rfl⟩ := hl
          have hr := hd1 i i0 (by omega) i1 y y0 y1 hR
          have := ha y y0 y1 hr (by rw [tb_zero]; decide)
          obtain ⟨i', i0', i1', e'⟩ := this.2
          refine ⟨this.1, ⟨i', by omega, i1', e'⟩, fun w => ux ⟨y, y0, y1, w⟩⟩
      · have hqh := hq hd h0 (by omega)
        have fo := hfo (m1 119 hd) hqh.1 hqh.2
        rw [f1 115 (by decide) (by decide)]
        have jn := jan18 fo.1.1 fo.1.2 r1.1 r1.2
        have jr := jor18 r1.1 r1.2 jn.1.1 jn.1.2
        refine ⟨h0, by omega, hqh.1, by omega, ?_⟩
        generalize hopen : jand (m 115 (m1 119 hd)) (jxor r (-1)) = o at *
        generalize hall_ : jor r o = ra at *
        -- the bits that are open
        have inn : ∀ (k : Nat) (i o tail2 : Int) (m2 : jM), 18 - i < k → 0 ≤ i → i + cnt o 18 ≤ 18 → 0 ≤ o → o < 262144 → tail ≤ tail2 → m2 119 hd = m1 119 hd → O tail2 (hd + 1) ra o m2 → (∀ y, 0 ≤ y → y < 32 → tb o y = true → tb ra y = true ∧ R (m1 119 hd) y) → GL iX2_findFollower m2 56 [(2, 106), (9, 0), (0, ra), (0, tail2), (0, hd), (0, o), (0, i), (9, 0)] [] Q := by
          intro k
          induction k with
          | zero => intro i o tail2 m2 hk i0 hi; have := (cnt_nn o 18).1; omega
          | succ k ihk =>
            intro i o tail2 m2 hk i0 hi o0 o1 ht2 hqe hO2 hop
            obtain ⟨f2, q02, t2, ra2, hq2, hdist2, hb2, ha2, hc2, hd2⟩ := (hO _ _ _ _ _).mp hO2
            have tT2 := inj_le T0 hq2 hdist2
            have next : o = 0 → GL iX2_findFollower m2 14 [(2, 106), (9, 0), (0, ra), (0, tail2), (0, hd + 1), (9, 0), (9, 0), (9, 0)] [] Q := by
              rintro rfl
              exact ih (hd + 1) tail2 ra m2 (by omega) (by omega) (by omega) hO2
            have c0 := (cnt_nn o 18).1
            refine sX2_findFollower_56 ?_
            rw [jw_id (x := hd + 1) (by omega) (by omega), jw_id (x := i + 1) (by omega) (by omega), jw_id (x := tail2 + 1) (by omega) (by omega)]
            refine ⟨fun z => next ?_, fun z => ⟨fun z2 => next z2, fun z2 => c_bitCount ?_⟩⟩
            · apply Classical.byContradiction
              intro w
              have := (lw18 (show 0 < o by omega) o1).2.2.2.2
              have := (cnt_nn (jand o (jw (o - 1))) 18).1
              omega
            · obtain ⟨⟨l0, l1, l2⟩, lb, lr, lbits, lc⟩ := lw18 (show 0 < o by omega) o1
              rw [lb]
              generalize hy : low o = y at *
              have hy2 := hop y l0 (by omega) l2
              have yT : y < T := hb2 y l0 (by omega) hy2.1
              have e117 : m2 117 y = M y := by rw [f2 117 (by decide) (by decide)]; exact hf.1 y l0 yT
              rw [e117, hqe]
              refine ⟨by omega, by omega, l0, by omega, l0, by omega, fun w => ⟨fun w2 => absurd w2 (by omega), fun w2 => ⟨l0, by omega, by omega, by omega, ?_⟩⟩, fun w => ?_⟩
              · -- its place is taken: its owner comes behind the queue
                have my : 0 ≤ M y ∧ M y < T := by
                  rcases hM.1 y l0 yT with u | u
                  · exact absurd u w
                  · exact ⟨u.1, u.2.1⟩
                have nq : ∀ j, 0 ≤ j → j < tail2 → m2 119 j ≠ M y := by
                  intro j j0 j1 e
                  by_cases ej : j = 0
                  · rw [ej, q02] at e
                    exact ux ⟨y, l0, yT, e.symm⟩
                  · obtain ⟨y', j', a0, a1, a2, a3, a4, -⟩ := hc2 j (by omega) j1
                    have := hM.2 y' y a0 a1 l0 yT (by omega) (by omega)
                    rw [this] at a3
                    exact a3 l2
                generalize hm3 : jup (jup m2 118 y (m1 119 hd)) 119 tail2 (M y) = m3
                have v118 : ∀ z, m3 118 z = if z = y then m1 119 hd else m2 118 z := fun z => by rw [← hm3, jup_ne (by decide), jup_self]
                have v119 : ∀ z, m3 119 z = if z = tail2 then M y else m2 119 z := fun z => by rw [← hm3, jup_self, jup_ne (by decide)]
                refine ihk (i + 1) _ (tail2 + 1) m3 (by omega) (by omega) (by omega) lr.1 lr.2 (by omega) (by rw [v119, if_neg (by omega)]; exact hqe) ((hO _ _ _ _ _).mpr ⟨fun p h118 h119 => by rw [← hm3, jup_ne h119, jup_ne h118]; exact f2 p h118 h119, by rw [v119, if_neg (by omega)]; exact q02, by omega, ra2, fun j j0 j1 => ?_, fun a b a0 ab b1 => ?_, hb2, fun z z0 z1 hz hz2 => ?_, fun j j0 j1 => ?_, fun j j0 j1 j2 z z0 z1 hR => ?_⟩) (fun z z0 z1 hz => ?_)
                · rw [v119]
                  split
                  · exact my
                  · exact hq2 j j0 (by omega)
                · rw [v119, v119]
                  by_cases eb : b = tail2
                  · rw [if_pos eb, if_neg (by omega)]
                    exact nq a a0 (by omega)
                  · rw [if_neg eb, if_neg (by omega)]
                    exact hdist2 a b a0 ab (by omega)
                · by_cases ez : z = y
                  · rw [ez]
                    exact ⟨w, tail2, by omega, by omega, by rw [v119, if_pos rfl]⟩
                  · have hzo : ¬ tb o z = true := fun u => hz2 ((lbits z z0 (by omega)).mpr ⟨u, ez⟩)
                    obtain ⟨b1, j, b2, b3, b4⟩ := ha2 z z0 z1 hz hzo
                    exact ⟨b1, j, b2, by omega, by rw [v119, if_neg (by omega)]; exact b4⟩
                · by_cases ej : j = tail2
                  · refine ⟨y, hd, l0, yT, hy2.1, fun u => ((lbits y l0 (by omega)).mp u).2 rfl, ?_, h0, by omega, ?_, ?_⟩
                    · rw [v119, if_pos ej]
                    · rw [v118, if_pos rfl, v119, if_neg (by omega), hqe]
                    · rw [v119, if_neg (by omega), hqe]; exact hy2.2
                  · obtain ⟨y', j', a0, a1, a2, a3, a4, a5, a6, a7, a8⟩ := hc2 j j0 (by omega)
                    have ne : y' ≠ y := by rintro rfl; exact a3 l2
                    refine ⟨y', j', a0, a1, a2, fun u => a3 ((lbits y' a0 (by omega)).mp u).1, ?_, a5, a6, ?_, ?_⟩
                    · rw [v119, if_neg ej]; exact a4
                    · rw [v118, if_neg ne, v119, if_neg (by omega)]; exact a7
                    · rw [v119, if_neg (by omega)]; exact a8
                · rw [v119, if_neg (by omega)] at hR
                  exact hd2 j j0 j1 (by omega) z z0 z1 hR
                · exact hop z z0 z1 ((lbits z z0 z1).mp hz).1
              · -- it is free: all change
                have my : M y = -1 := Classical.byContradiction w
                generalize hm3 : jup m2 118 y (m1 119 hd) = m3
                have v118 : ∀ z, m3 118 z = if z = y then m1 119 hd else m2 118 z := fun z => by rw [← hm3, jup_self]
                have o3 : ∀ p, p ≠ 118 → m3 p = m2 p := fun p hp => by rw [← hm3, jup_ne hp]
                have fM3 : fM T M m3 := by
                  unfold fM at hf ⊢
                  rw [o3 117 (by decide), o3 116 (by decide), f2 117 (by decide) (by decide), f2 116 (by decide) (by decide)]
                  exact hf
                have e119 : m3 119 = m2 119 := o3 119 (by decide)
                refine c_joinBack (q := m3 119) (tail := tail2) (j := hd) T0 T18 (by rw [e119]; exact hq2) (by rw [e119]; exact hdist2) (by rw [e119, q02]; exact ux) (fun j j0 j1 => ?_) hM fM3 l0 yT my h0 (by omega) (by rw [v118, if_pos rfl, e119, hqe]) (by rw [e119, hqe]; exact hy2.2) (fun m4 M4 f4 mt4 fm4 cv4 => ?_)
                · obtain ⟨y', j', a0, a1, a2, a3, a4, a5, a6, a7, a8⟩ := hc2 j j0 j1
                  have ne : y' ≠ y := by rintro rfl; exact a3 l2
                  rw [e119]
                  exact ⟨y', j', a0, a1, a4, a5, a6, by rw [v118, if_neg ne]; exact a7, a8⟩
                · rw [e119, q02] at cv4
                  refine hQ m4 M4 (fun p h116 h117 h118 h119 => by rw [f4 p h116 h117, o3 p h118]; exact f2 p h118 h119) mt4 fm4 (fun z z0 z1 => ?_) ⟨M4, mt4, fun z hz => ?_⟩
                  · rw [cv4 z z0, hXM z z0 z1]
                  · rcases hz with u | u
                    · have := hX z u
                      exact (cv4 z this.1).mpr (Or.inl ((hXM z this.1 this.2).mp u))
                    · rw [u]; exact (cv4 x x0).mpr (Or.inr rfl)
        refine inn 19 0 o tail m1 (by decide) (by decide) (by have := cnt18 o; omega) jn.1.1 jn.1.2 (Int.le_refl _) rfl ((hO _ _ _ _ _).mpr ⟨f1, q0, t1, jr.1, hq, hdist, fun y y0 y1 hy => ?_, fun y y0 y1 hy hyo => ?_, fun i i0 i1 => ?_, fun i i0 i1 i2 y y0 y1 hR => ?_⟩) (fun y y0 y1 hy => ?_)
        · rcases (jr.2 y y0 y1).mp hy with u | u
          · exact hb y y0 y1 u
          · exact ((fo.2 y y0 y1).mp ((jn.2 y y0 y1).mp u).1).1
        · rcases (jr.2 y y0 (by omega)).mp hy with u | u
          · exact ha y y0 y1 u (by rw [tb_zero]; decide)
          · exact absurd u hyo
        · obtain ⟨y', j', a0, a1, a2, a3, a4, a5, a6, a7, a8⟩ := hc i i0 i1
          exact ⟨y', j', a0, a1, (jr.2 y' a0 (by omega)).mpr (Or.inl a2), fun u => ((jn.2 y' a0 (by omega)).mp u).2 a2, a4, a5, a6, a7, a8⟩
        · by_cases e : i = hd
          · rw [e] at hR
            by_cases hr : tb r y = true
            · exact (jr.2 y y0 (by omega)).mpr (Or.inl hr)
            · exact (jr.2 y y0 (by omega)).mpr (Or.inr ((jn.2 y y0 (by omega)).mpr ⟨(fo.2 y y0 (by omega)).mpr ⟨y1, hR⟩, hr⟩))
          · exact (jr.2 y y0 (by omega)).mpr (Or.inl (hd1 i i0 (by omega) i2 y y0 y1 hR))
        · have u := (jn.2 y y0 y1).mp hy
          exact ⟨(jr.2 y y0 y1).mpr (Or.inr hy), ((fo.2 y y0 y1).mp u.1).2⟩
  refine key 20 0 1 0 _ (by decide) (by decide) (by decide) ((hO _ _ _ _ _).mpr ⟨fun p h118 h119 => jup_ne h119, jup_s, by decide, by decide, fun i i0 i1 => ?_, fun i j i0 ij j1 => by omega, fun y y0 y1 hy => ?_, fun y y0 y1 hy => ?_, fun i i0 i1 => by omega, fun i i0 i1 => by omega⟩)
  · obtain rfl : i = 0 := by omega
    rw [jup_s]; exact ⟨x0, x1⟩
  · rw [tb_zero] at hy; exact absurd hy (by decide)
  · rw [tb_zero] at hy; exact absurd hy (by decide)

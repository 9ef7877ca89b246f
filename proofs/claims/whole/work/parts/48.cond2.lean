/-! conds in the reference -/
def rx (x : Int → Int) (op v : Int) (s : List Int) : List Int :=
  if op < 2 then (if op = 0 then v else x v) :: s
  else (match s with
    | b :: a :: r => (if op = 2 then jw (a + b) else if op = 3 then jw (a - b) else jw (a * b)) :: r
    | s => s)
def rEv (O W x : Int → Int) (a : Int) : Nat → List Int
  | 0 => []
  | j + 1 => rx x (O (a + j)) (W (a + j)) (rEv O W x a j)
def rOk (O W : Int → Int) (a b : Int) : Prop := 0 ≤ a ∧ a ≤ b ∧ b ≤ 500 ∧ ∀ x, ∀ j : Nat, a + (j : Int) < b → (O (a + j) = 1 → 0 ≤ W (a + j) ∧ W (a + j) < 5) ∧ 0 ≤ O (a + j) ∧ (2 ≤ O (a + j) → 2 ≤ (rEv O W x a j).length) ∧ (rEv O W x a j).length < 500
def rVal (V : jM) (x : Int → Int) (a b : Int) : Int := cTop (rEv (V 22) (V 23) x a (b - a).toNat)
def litB (V : jM) (x : Int → Int) (k : Int) : Bool := (if V 25 k = 300 then decide (rVal V x (V 26 k) (V 27 k) = rVal V x (V 27 k) (V 28 k)) else if V 25 k = 301 then decide (rVal V x (V 26 k) (V 27 k) ≠ rVal V x (V 27 k) (V 28 k)) else if V 25 k = 302 then decide (rVal V x (V 26 k) (V 27 k) ≤ rVal V x (V 27 k) (V 28 k)) else decide (rVal V x (V 26 k) (V 27 k) < rVal V x (V 27 k) (V 28 k))) != decide (V 24 k ≠ 0)
/-- over lits: has a row held that is done; does the row hold that goes on -/
def hd (V : jM) (x : Int → Int) (a : Int) : Nat → Bool × Bool
  | 0 => (false, true)
  | j + 1 => if j = 0 ∨ V 29 (a + j) = V 29 (a + j - 1) then ((hd V x a j).1, (hd V x a j).2 && litB V x (a + j)) else ((hd V x a j).1 || (hd V x a j).2, litB V x (a + j))
def heldB (V : jM) (x : Int → Int) (a b : Int) : Bool := (hd V x a (b - a).toNat).1 || (hd V x a (b - a).toNat).2
def vRd (V : jM) (k : Int) (m : jM) : Prop := (0 ≤ k ∧ k < 3) ∧ (∀ i, 0 ≤ i → i < 500 → m 163 (500 * k + i) = V 22 i ∧ m 164 (500 * k + i) = V 23 i) ∧ (∀ i, 0 ≤ i → i < 200 → m 166 (200 * k + i) = V 24 i ∧ m 167 (200 * k + i) = V 25 i ∧ m 168 (200 * k + i) = V 26 i + 500 * k ∧ m 169 (200 * k + i) = V 27 i + 500 * k ∧ m 170 (200 * k + i) = V 28 i + 500 * k ∧ m 171 (200 * k + i) = V 29 i) ∧ ∀ i, 0 ≤ i → i < 8 → m 160 (8 * k + i) = V 20 i + 200 * k ∧ m 161 (8 * k + i) = V 21 i + 200 * k
theorem vRd_fr {V m m' : jM} {k : Int} (h : vRd V k m) (hf : ∀ p, p ∈ [163, 164, 166, 167, 168, 169, 170, 171, 160, 161] → m' p = m p) : vRd V k m' := by
  unfold vRd at *
  rw [hf 163 (by decide), hf 164 (by decide), hf 166 (by decide), hf 167 (by decide), hf 168 (by decide), hf 169 (by decide), hf 170 (by decide), hf 171 (by decide), hf 160 (by decide), hf 161 (by decide)]
  exact h
theorem c_sum {V m : jM} {Q : Int → jM → Prop} {k a b : Int} {x : Int → Int} (hd : vRd V k m) (hok : rOk (V 22) (V 23) a b) (hx : ∀ i, 0 ≤ i → i < 5 → m 192 i = x i) (hne : rEv (V 22) (V 23) x a (b - a).toNat ≠ []) (hQ : ∀ m', fr [193] m m' → Q (rVal V x a b) m') : ML iX11_sum [(2, 139), (0, a + 500 * k), (0, b + 500 * k)] m Q := by
  obtain ⟨a0, ab, b5, hj⟩ := hok
  have k0 := hd.1
  refine sX11_sum ?_
  have key := lup2 (n := b) (I := fun i m1 (top : Int) => a ≤ i ∧ i ≤ b ∧ fr [193] m m1 ∧ top = ((rEv (V 22) (V 23) x a (i - a).toNat).length : Int) ∧ stkR (m1 193) (rEv (V 22) (V 23) x a (i - a).toNat)) (G := fun i m1 top => GL iX11_sum m1 5 [(2, 139), (9, 0), (0, b + 500 * k), (0, top), (0, i + 500 * k), (9, 0), (9, 0), (9, 0)] [] Q) ?_ ?_ a m 0 ⟨Int.le_refl _, ab, fr_rf, by rw [Int.sub_self]; rfl, by rw [Int.sub_self]; trivial⟩
  · exact key
  · rintro i m1 top hi ⟨i0, i1, hf, rfl, hs⟩ K
    have q := hd.2.1 i (by omega) (by omega)
    have e1 := hf 163 (by decide)
    have e2 := hf 164 (by decide)
    have e3 := hf 192 (by decide)
    have hji := hj x (i - a).toNat (by omega)
    have hit : a + (((i - a).toNat : Nat) : Int) = i := by omega
    rw [hit] at hji
    have nx : rEv (V 22) (V 23) x a (i + 1 - a).toNat = rx x (V 22 i) (V 23 i) (rEv (V 22) (V 23) x a (i - a).toNat) := by
      rw [show (i + 1 - a).toNat = (i - a).toNat + 1 by omega]
      simp only [rEv]
      rw [hit]
    generalize hsg : rEv (V 22) (V 23) x a (i - a).toNat = s at *
    obtain ⟨h1, h2, h3, h4⟩ := hji
    refine sX11_sum_5 ?_
    rw [e1, e2, e3, show i + 500 * k = 500 * k + i by omega, q.1, q.2, jw_id (x := 500 * k + i + 1) (by omega) (by omega), show 500 * k + i + 1 = i + 1 + 500 * k by omega, jw_id (x := (s.length : Int) + -1) (by omega) (by omega), jw_id (x := (s.length : Int) + -1 - 1) (by omega) (by omega), jw_id (x := (s.length : Int) - 1) (by omega) (by omega), jw_id (x := (s.length : Int) - 2) (by omega) (by omega), jw_id (x := (s.length : Int) + 1) (by omega) (by omega)]
    have push : ∀ v, V 22 i < 2 → v = (if V 22 i = 0 then V 23 i else x (V 23 i)) → GL iX11_sum (jup m1 193 s.length v) 5 [(2, 139), (9, 0), (0, b + 500 * k), (0, (s.length : Int) + 1), (0, i + 1 + 500 * k), (9, 0), (9, 0), (9, 0)] [] Q := by
      intro v hv e
      refine K _ _ ⟨by omega, by omega, fr_up hf (by decide), ?_, ?_⟩
      · rw [nx]
        unfold rx
        rw [if_pos hv, List.length_cons]
        omega
      · rw [nx]
        unfold rx
        rw [if_pos hv, ← e]
        refine ⟨jup_s, stkR_cg hs (fun j j0 j1 => by rw [jup_self, if_neg (by omega)])⟩
    have bin : 2 ≤ V 22 i → ∀ z, (∀ u w : Int, m1 193 ((s.length : Int) - 2) = u → m1 193 ((s.length : Int) - 1) = w → z = (if V 22 i = 2 then jw (u + w) else if V 22 i = 3 then jw (u - w) else jw (u * w))) → GL iX11_sum (jup m1 193 ((s.length : Int) + -1 - 1) z) 5 [(2, 139), (9, 0), (0, b + 500 * k), (0, (s.length : Int) + -1), (0, i + 1 + 500 * k), (9, 0), (9, 0), (9, 0)] [] Q := by
      intro h5 z hz
      have h6 := h3 h5
      match s, h6, hs, nx, hz with
      | w :: u :: r, _, hs, nx, hz =>
        simp only [List.length_cons] at hz ⊢
        have e4 := hz u w (by
          rw [show ((r.length + 1 + 1 : Nat) : Int) - 2 = (r.length : Int) by omega]
          exact hs.2.1) (by
          rw [show ((r.length + 1 + 1 : Nat) : Int) - 1 = ((r.length + 1 : Nat) : Int) by omega]
          exact hs.1)
        have e5 : rx x (V 22 i) (V 23 i) (w :: u :: r) = z :: r := by
          unfold rx
          rw [if_neg (by omega), e4]
        refine K _ _ ⟨by omega, by omega, fr_up hf (by decide), ?_, ?_⟩
        · rw [nx, e5, List.length_cons]
          omega
        · rw [nx, e5]
          refine ⟨?_, stkR_cg hs.2.2 (fun j j0 j1 => ?_)⟩
          · rw [jup_self, if_pos (by omega)]
          · rw [jup_self, if_neg (by omega)]
    refine ⟨fun z => absurd z (by omega), fun _ => ⟨by omega, by omega, fun z => ?_, fun z => ⟨fun z2 => ⟨by omega, by omega, ?_⟩, fun z2 => ⟨by omega, by omega, by omega, by omega, push _ (by omega) (by rw [if_pos (Classical.byContradiction z2)])⟩⟩⟩⟩
    · have h6 := h3 z
      refine ⟨by omega, by omega, by omega, by omega, fun z2 => ⟨fun z3 => ⟨by omega, by omega, bin z _ (fun u w hu hw => ?_)⟩, fun z3 => ⟨by omega, by omega, bin z _ (fun u w hu hw => ?_)⟩⟩, fun z2 => ⟨by omega, by omega, bin z _ (fun u w hu hw => ?_)⟩⟩
      · rw [hu, hw, if_neg z2, if_neg z3]
      · rw [hu, hw, if_neg z2, if_pos (Classical.byContradiction z3)]
      · rw [hu, hw, if_pos (Classical.byContradiction z2)]
    · have h6 := h1 (by omega)
      rw [hx _ h6.1 h6.2]
      exact ⟨h6.1, h6.2, by omega, by omega, push _ (by omega) (by rw [if_neg z2])⟩
  · rintro i m1 top hi ⟨i0, i1, hf, rfl, hs⟩
    obtain rfl : i = b := by omega
    refine sX11_sum_5 ⟨fun _ => ?_, fun z => absurd (Int.le_refl _) z⟩
    rw [stk_bot hs hne]
    exact hQ m1 hf
def litK (V : jM) (i : Int) : Prop := (V 24 i = 0 ∨ V 24 i = 1) ∧ rOk (V 22) (V 23) (V 26 i) (V 27 i) ∧ rOk (V 22) (V 23) (V 27 i) (V 28 i) ∧ ∀ x, rEv (V 22) (V 23) x (V 26 i) (V 27 i - V 26 i).toNat ≠ [] ∧ rEv (V 22) (V 23) x (V 27 i) (V 28 i - V 27 i).toNat ≠ []
/-- the conds of a view as they must be -/
def vKd (V : jM) : Prop := ∀ r, 0 ≤ r → r < V 0 4 → 0 ≤ V 20 r ∧ V 20 r < V 21 r ∧ V 21 r ≤ 200 ∧ ∀ i, V 20 r ≤ i → i < V 21 r → litK V i
theorem c_isLit {V m : jM} {Q : Int → jM → Prop} {k i : Int} {x : Int → Int} (hd : vRd V k m) (i0 : 0 ≤ i) (i1 : i < 200) (hl : litK V i) (hx : ∀ i, 0 ≤ i → i < 5 → m 192 i = x i) (hQ : ∀ m', fr [193] m m' → Q (if litB V x i = true then 1 else 0) m') : ML iX11_isLit [(2, 139), (0, i + 200 * k)] m Q := by
  obtain ⟨l1, l2, l3, l4⟩ := hl
  have k0 := hd.1
  have q := hd.2.2.1 i i0 i1
  refine sX11_isLit ?_
  rw [show i + 200 * k = 200 * k + i by omega, q.2.2.1, q.2.2.2.1]
  refine ⟨by omega, by omega, by omega, by omega, c_sum hd l2 hx (l4 x).1 (fun m1 f1 => ?_)⟩
  rw [f1 169 (by decide), f1 170 (by decide), q.2.2.2.1, q.2.2.2.2.1]
  have hd1 : vRd V k m1 := vRd_fr hd (fun p hp => f1 p (by simp only [List.mem_cons, List.not_mem_nil, or_false] at hp ⊢; omega))
  refine ⟨by omega, by omega, by omega, by omega, c_sum hd1 l3 (fun i h0 h1 => by rw [f1 192 (by decide)]; exact hx i h0 h1) (l4 x).2 (fun m2 f2 => ?_)⟩
  have f12 := fr_tr f1 f2
  have e167 : m2 167 (200 * k + i) = V 25 i := by rw [f12 167 (by decide)]; exact q.2.1
  have e166 : m2 166 (200 * k + i) = V 24 i := by rw [f12 166 (by decide)]; exact q.1
  have hq := hQ m2 f12
  unfold litB at hq
  generalize rVal V x (V 26 i) (V 27 i) = u at hq ⊢
  generalize rVal V x (V 27 i) (V 28 i) = w at hq ⊢
  have tail : ∀ s0, s0 = (if (if V 25 i = 300 then decide (u = w) else if V 25 i = 301 then decide (u ≠ w) else if V 25 i = 302 then decide (u ≤ w) else decide (u < w)) = true then 1 else 0) → GL iX11_isLit m2 119 [(2, 139), (0, 200 * k + i), (9, 0), (9, 0), (9, 0)] [(0, s0)] Q := by
    intro s0 hs0
    refine sX11_isLit_119 ⟨by omega, by omega, fun z => ?_, fun z => ?_⟩
    · rw [e166] at z
      rw [if_neg] at hq
      · exact hq
      · generalize (if V 25 i = 300 then decide (u = w) else if V 25 i = 301 then decide (u ≠ w) else if V 25 i = 302 then decide (u ≤ w) else decide (u < w)) = B at hs0
        rcases l1 with h | h <;> cases B <;> simp [h] at hs0 z ⊢ <;> omega
    · rw [e166] at z
      rw [if_pos] at hq
      · exact hq
      · generalize (if V 25 i = 300 then decide (u = w) else if V 25 i = 301 then decide (u ≠ w) else if V 25 i = 302 then decide (u ≤ w) else decide (u < w)) = B at hs0
        rcases l1 with h | h <;> cases B <;> simp [h] at hs0 z ⊢ <;> omega
  rw [e167]
  refine ⟨by omega, by omega, fun c1 => ⟨by omega, by omega, fun c2 => ⟨by omega, by omega, fun c3 => ⟨fun c4 => tail 0 ?_, fun c4 => tail 1 ?_⟩, fun c3 => ⟨fun c4 => tail 0 ?_, fun c4 => tail 1 ?_⟩⟩, fun c2 => ⟨fun c4 => tail 0 ?_, fun c4 => tail 1 ?_⟩⟩, fun c1 => ⟨fun c4 => tail 0 ?_, fun c4 => tail 1 ?_⟩⟩
  · rw [if_neg c1, if_neg c2, if_neg c3, decide_eq_false (by omega)]; rfl
  · rw [if_neg c1, if_neg c2, if_neg c3, decide_eq_true (by omega)]; rfl
  · rw [if_neg c1, if_neg c2, if_pos (Classical.byContradiction c3), decide_eq_false (by omega)]; rfl
  · rw [if_neg c1, if_neg c2, if_pos (Classical.byContradiction c3), decide_eq_true (by omega)]; rfl
  · rw [if_neg c1, if_pos (Classical.byContradiction c2), decide_eq_false (by omega)]; rfl
  · rw [if_neg c1, if_pos (Classical.byContradiction c2), decide_eq_true (by omega)]; rfl
  · rw [if_pos (Classical.byContradiction c1), decide_eq_false (by omega)]; rfl
  · rw [if_pos (Classical.byContradiction c1), decide_eq_true (by omega)]; rfl
theorem hd_acc {V : jM} {x : Int → Int} {a : Int} {j : Nat} (h : (hd V x a j).1 = true) : ∀ i, (hd V x a (j + i)).1 = true := by
  intro i
  induction i with
  | zero => exact h
  | succ i ih =>
    rw [show j + (i + 1) = j + i + 1 by omega]
    simp only [hd]
    split
    · exact ih
    · simp [ih]
theorem c_isHeld {V m : jM} {Q : Int → jM → Prop} {k a b : Int} {x : Int → Int} (hdm : vRd V k m) (a0 : 0 ≤ a) (ab : a < b) (b2 : b ≤ 200) (hl : ∀ i, a ≤ i → i < b → litK V i) (hx : ∀ i, 0 ≤ i → i < 5 → m 192 i = x i) (hQ : ∀ m', fr [193] m m' → Q (if heldB V x a b = true then 1 else 0) m') : ML iX11_isHeld [(2, 139), (0, a + 200 * k), (0, b + 200 * k)] m Q := by
  have k0 := hdm.1
  refine sX11_isHeld ?_
  -- at the head of a row
  have main : ∀ (n : Nat) (i : Int) (m1 : jM), b - i < n → a ≤ i → i ≤ b → fr [193] m m1 → (i = a ∨ (hd V x a (i - a).toNat = (false, false) ∧ (i < b → V 29 i ≠ V 29 (i - 1)))) → GL iX11_isHeld m1 2 [(2, 139), (9, 0), (0, b + 200 * k), (0, i + 200 * k), (9, 0), (9, 0)] [] Q := by
    intro n
    induction n with
    | zero => intro i m1 h1 h2 h3; omega
    | succ n ih =>
      intro i m1 hn i0 i1 hf hst
      by_cases hib : i < b
      · have q := hdm.2.2.1 i (by omega) (by omega)
        refine sX11_isHeld_2 ⟨fun z => absurd z (by omega), fun _ => ⟨by omega, by omega, ?_⟩⟩
        rw [hf 171 (by decide), show i + 200 * k = 200 * k + i by omega, q.2.2.2.2.2, show 200 * k + i = i + 200 * k by omega]
        -- within the row
        have inn : ∀ (n2 : Nat) (c : Int) (m2 : jM) (al : Int), b - c < n2 → i ≤ c → c ≤ b → fr [193] m m2 → ((c = i ∧ al = 1) ∨ (i < c ∧ (hd V x a (c - a).toNat).1 = false ∧ al = (if (hd V x a (c - a).toNat).2 = true then 1 else 0) ∧ V 29 (c - 1) = V 29 i)) → GL iX11_isHeld m2 18 [(2, 139), (9, 0), (0, b + 200 * k), (0, c + 200 * k), (0, V 29 i), (0, al)] [] Q := by
          intro n2
          induction n2 with
          | zero => intro c m2 al h1 h2 h3; omega
          | succ n2 ih2 =>
            intro c m2 al hn2 c0 c1 hf2 hst2
            -- the row ends here
            have over : (c = b ∨ (c < b ∧ V 29 c ≠ V 29 i)) → i < c → ((al = 0 → GL iX11_isHeld m2 2 [(2, 139), (9, 0), (0, b + 200 * k), (0, c + 200 * k), (9, 0), (9, 0)] [] Q) ∧ (¬ al = 0 → Q 1 m2)) := by
              intro hov hic
              rcases hst2 with ⟨e, -⟩ | ⟨-, s1, s2, s3⟩
              · omega
              · refine ⟨fun z => ?_, fun z => ?_⟩
                · refine ih c m2 (by omega) (by omega) c1 hf2 (Or.inr ⟨?_, fun hcb => ?_⟩)
                  · have : (hd V x a (c - a).toNat).2 = false := by
                      cases h : (hd V x a (c - a).toNat).2 with
                      | false => rfl
                      | true => rw [h] at s2; rw [s2] at z; exact absurd z (by decide)
                    exact Prod.ext s1 this
                  · rcases hov with h | h
                    · omega
                    · rw [s3]; exact h.2
                · have h2 : (hd V x a (c - a).toNat).2 = true := by
                    cases h : (hd V x a (c - a).toNat).2 with
                    | true => rfl
                    | false => rw [h] at s2; exact absurd s2 z
                  have hq := hQ m2 hf2
                  rw [if_pos] at hq
                  · exact hq
                  · unfold heldB
                    rcases hov with h | h
                    · rw [← h, h2, Bool.or_true]
                    · have h3 : (hd V x a ((c - a).toNat + 1)).1 = true := by
                        simp only [hd]
                        rw [if_neg]
                        · simp [h2]
                        · rintro (h4 | h4)
                          · omega
                          · rw [show a + (((c - a).toNat : Nat) : Int) = c by omega, s3] at h4
                            exact h.2 h4
                      have h4 := hd_acc h3 ((b - a).toNat - ((c - a).toNat + 1))
                      rw [show (c - a).toNat + 1 + ((b - a).toNat - ((c - a).toNat + 1)) = (b - a).toNat by omega] at h4
                      rw [h4, Bool.true_or]
            by_cases hcb : c < b
            · have qc := hdm.2.2.1 c (by omega) (by omega)
              refine sX11_isHeld_18 ?_
              rw [hf2 171 (by decide), show c + 200 * k = 200 * k + c by omega, qc.2.2.2.2.2, jw_id (x := 200 * k + c + 1) (by omega) (by omega), show 200 * k + c + 1 = c + 1 + 200 * k by omega, show 200 * k + c = c + 200 * k by omega]
              refine ⟨fun z => absurd z (by omega), fun _ => ⟨by omega, by omega, fun z => ?_, fun z => ?_⟩⟩
              · have hic : i < c := by
                  rcases hst2 with ⟨e, -⟩ | ⟨h, -⟩
                  · rw [e] at z; exact absurd rfl z
                  · exact h
                exact over (Or.inr ⟨hcb, z⟩) hic
              · have z := Classical.byContradiction z
                have hit : a + (((c - a).toNat : Nat) : Int) = c := by omega
                have nx : hd V x a (c + 1 - a).toNat = if (c - a).toNat = 0 ∨ V 29 c = V 29 (c - 1) then ((hd V x a (c - a).toNat).1, (hd V x a (c - a).toNat).2 && litB V x c) else ((hd V x a (c - a).toNat).1 || (hd V x a (c - a).toNat).2, litB V x c) := by
                  rw [show (c + 1 - a).toNat = (c - a).toNat + 1 by omega]
                  simp only [hd]
                  rw [hit]
                -- what the next lit does
                have nx2 : (hd V x a (c + 1 - a).toNat).1 = false ∧ (hd V x a (c + 1 - a).toNat).2 = ((al != 0) && litB V x c) := by
                  rw [nx]
                  rcases hst2 with ⟨e, e2⟩ | ⟨h, s1, s2, s3⟩
                  · rw [e2]
                    rcases hst with h3 | ⟨h3, h4⟩
                    · have e0 : (c - a).toNat = 0 := by omega
                      rw [if_pos (Or.inl e0), e0]
                      exact ⟨rfl, rfl⟩
                    · rw [← e] at h3 h4
                      by_cases e0 : (c - a).toNat = 0
                      · rw [if_pos (Or.inl e0), e0]
                        exact ⟨rfl, rfl⟩
                      · rw [if_neg (by rintro (y | y); exact e0 y; exact h4 hcb y), h3]
                        exact ⟨rfl, rfl⟩
                  · rw [if_pos (Or.inr (by rw [z, s3]))]
                    refine ⟨s1, ?_⟩
                    rw [s2]
                    cases (hd V x a (c - a).toNat).2 <;> rfl
                refine ⟨fun z0 => ih2 (c + 1) m2 al (by omega) (by omega) (by omega) hf2 (Or.inr ⟨by omega, nx2.1, ?_, (congrArg (V 29) (show c + 1 - 1 = c by omega)).trans z⟩), fun z0 => c_isLit (x := x) (vRd_fr hdm (fun p hp => hf2 p (by simp only [List.mem_cons, List.not_mem_nil, or_false] at hp ⊢; omega))) (by omega) (by omega) (hl c (by omega) hcb) (fun y y0 y1 => by rw [hf2 192 (by decide)]; exact hx y y0 y1) (fun m3 f3 => ih2 (c + 1) m3 _ (by omega) (by omega) (by omega) (fr_tr hf2 f3) (Or.inr ⟨by omega, nx2.1, ?_, (congrArg (V 29) (show c + 1 - 1 = c by omega)).trans z⟩))⟩
                · rw [nx2.2, z0]
                  simp
                · rw [nx2.2]
                  have : (al != 0) = true := by simpa using z0
                  rw [this, Bool.true_and]
            · have hcb2 : c = b := by omega
              refine sX11_isHeld_18 ⟨fun _ => over (Or.inl hcb2) (by omega), fun z => absurd (by omega) z⟩
        exact inn ((b - i).toNat + 1) i m1 1 (by omega) (Int.le_refl _) (by omega) hf (Or.inl ⟨rfl, rfl⟩)
      · have e : i = b := by omega
        refine sX11_isHeld_2 ⟨fun _ => ?_, fun z => absurd (by omega) z⟩
        have hq := hQ m1 hf
        rcases hst with h | ⟨h, -⟩
        · omega
        · unfold heldB at hq
          rw [e] at h
          rw [h] at hq
          exact hq
  exact main ((b - a).toNat + 1) a m (by omega) (Int.le_refl _) (by omega) fr_rf (Or.inl rfl)

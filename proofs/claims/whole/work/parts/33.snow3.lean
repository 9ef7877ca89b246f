/-! frames by places and fields -/
def frx (S : List Int) (K : List (Int × Int)) (m m' : jM) : Prop := ∀ p i, p ∉ S → (p, i) ∉ K → m' p i = m p i
theorem frx_rf {S : List Int} {K : List (Int × Int)} {m : jM} : frx S K m m := fun _ _ _ _ => rfl
theorem frx_fr {S : List Int} {K : List (Int × Int)} {m m' : jM} (h : fr S m m') : frx S K m m' := fun p i h1 _ => by rw [h p h1]
theorem frx_tr {S : List Int} {K : List (Int × Int)} {m m1 m2 : jM} (h1 : frx S K m m1) (h2 : frx S K m1 m2) : frx S K m m2 := fun p i a b => (h2 p i a b).trans (h1 p i a b)
theorem frx_mono {S S' : List Int} {K K' : List (Int × Int)} {m m' : jM} (h : frx S K m m') (hs : ∀ p, p ∈ S → p ∈ S') (hk : ∀ q, q ∈ K → q ∈ K' ∨ q.1 ∈ S') : frx S' K' m m' := fun p i a b => h p i (fun z => a (hs p z)) (fun z => (hk _ z).elim b a)
theorem frx_up {S : List Int} {K : List (Int × Int)} {m m' : jM} {p i x : Int} (h : frx S K m m') (hp : p ∈ S ∨ (p, i) ∈ K) : frx S K m (jup m' p i x) := fun q j a b => by
  have hn : ¬ (q = p ∧ j = i) := by
    rintro ⟨rfl, rfl⟩
    exact hp.elim a b
  rw [jup, if_neg hn]
  exact h q j a b
theorem frx_upA {S : List Int} {K : List (Int × Int)} {m m' : jM} {p i x : Int} (h : frx S K m m') (hp : p ∈ S) : frx S K m (jup m' p i x) := frx_up h (Or.inl hp)
theorem frx_upF {S : List Int} {K : List (Int × Int)} {m m' : jM} {p i x : Int} (h : frx S K m m') (hp : (p, i) ∈ K) : frx S K m (jup m' p i x) := frx_up h (Or.inr hp)
theorem frx_fill {S : List Int} {K : List (Int × Int)} {m m' : jM} {p n x : Int} (h : frx S K m m') (hp : p ∈ S) : frx S K m (jfill m' p n x) := fun q j a b => by
  rw [jfill_ne (fun e => a (by rw [e]; exact hp))]
  exact h q j a b
theorem frx_row {S : List Int} {K : List (Int × Int)} {m m' : jM} (h : frx S K m m') (p : Int) (hp : p ∉ S) (hk : ∀ q ∈ K, q.1 ≠ p) : m' p = m p := by
  funext i
  exact h p i hp (fun z => hk _ z rfl)
/-- alike at these places and at these fields -/
def agr (D : List Int) (DF : List (Int × Int)) (m m' : jM) : Prop := (∀ p ∈ D, m' p = m p) ∧ ∀ q ∈ DF, m' q.1 q.2 = m q.1 q.2
def agrb (D : List Int) (DF : List (Int × Int)) (S : List Int) (K : List (Int × Int)) : Bool := D.all (fun p => !S.contains p && K.all (fun q => q.1 != p)) && DF.all (fun q => !S.contains q.1 && !K.contains q)
theorem agr_of {D S : List Int} {DF K : List (Int × Int)} {m m' : jM} (h : frx S K m m') (hb : agrb D DF S K = true) : agr D DF m m' := by
  unfold agrb at hb
  rw [Bool.and_eq_true, List.all_eq_true, List.all_eq_true] at hb
  refine ⟨fun p hp => ?_, fun q hq => ?_⟩
  · have := hb.1 p hp
    rw [Bool.and_eq_true, List.all_eq_true] at this
    refine frx_row h p (by simpa using this.1) (fun q hq => by simpa using this.2 q hq)
  · have := hb.2 q hq
    rw [Bool.and_eq_true] at this
    exact h q.1 q.2 (by simpa using this.1) (by simpa using this.2)
theorem agr_row {D : List Int} {DF : List (Int × Int)} {m m' : jM} (h : agr D DF m m') (p : Int) (hp : p ∈ D) : m' p = m p := h.1 p hp
theorem agr_at {D : List Int} {DF : List (Int × Int)} {m m' : jM} (h : agr D DF m m') (p i : Int) (hp : (p, i) ∈ DF) : m' p i = m p i := h.2 (p, i) hp
/-! snow: the calls of both -/
def snInv (m : jM) : Prop := snK m ∧ snC m m
abbrev snDp : List Int := [135, 136, 137, 138, 133, 186, 187, 188]
abbrev snDf : List (Int × Int) := [(139, 60)]
theorem snInv_cg {m m' : jM} (h : agr snDp snDf m m') (hx : snInv m) : snInv m' := by
  have a1 := agr_row h 133 (by decide)
  have a2 := agr_row h 135 (by decide)
  have a3 := agr_row h 136 (by decide)
  have a4 := agr_row h 137 (by decide)
  have a5 := agr_row h 138 (by decide)
  have a6 := agr_row h 186 (by decide)
  have a7 := agr_row h 187 (by decide)
  have a8 := agr_row h 188 (by decide)
  have a9 := agr_at h 139 60 (by decide)
  unfold snInv snK snC snD at *
  rw [a1, a2, a3, a4, a5, a6, a7, a8, a9]
  exact hx
theorem p_told {m : jM} {a b : Int} (h : snInv m) : ML iX10_told [(2, 0), (0, a), (0, b)] m (fun r m1 => ML iX11_told [(2, 139), (0, a), (0, b)] m1 (fun r' m2 => r = r' ∧ frx [134, 217] [] m m2)) := by
  by_cases hab : 0 ≤ a ∧ a < 12 ∧ 0 ≤ b ∧ b < 12
  · refine sX10_told (sX10_within ⟨fun c => absurd c (by omega), fun _ => ⟨fun c => absurd c (by omega), fun _ => ⟨fun c => absurd c (by decide), fun _ => sX10_within ⟨fun c => absurd c (by omega), fun _ => ⟨fun c => absurd c (by omega), fun _ => ⟨fun _ => ?_, fun c => absurd (by decide) c⟩⟩⟩⟩⟩⟩)
    refine c_spread h.1 h.2 hab.1 hab.2.1 (fun m1 hf hv => ?_)
    have e := hv b hab.2.2.1 hab.2.2.2
    have bd := sn_bd h.1 a b
    have hr : snR m m1 := ⟨by rw [hf 139 (by decide)], hf 186 (by decide), hf 187 (by decide), hf 188 (by decide)⟩
    have key : ∀ r, r = (if dst (12 : Nat) (snE m) a b = -1 then -2 else dst (12 : Nat) (snE m) a b) → ML iX11_told [(2, 139), (0, a), (0, b)] m1 (fun r' m2 => r = r' ∧ frx [134, 217] [] m m2) := by
      intro r hr2
      refine sX11_told (sX11_isIn ⟨fun c => absurd c (by omega), fun _ => ⟨fun c => absurd c (by omega), fun _ => ⟨fun c => absurd c (by decide), fun _ => sX11_isIn ⟨fun c => absurd c (by omega), fun _ => ⟨fun c => absurd c (by omega), fun _ => ⟨fun _ => ?_, fun c => absurd (by decide) c⟩⟩⟩⟩⟩⟩)
      refine c_snow h.1 hr hab.1 hab.2.1 (fun m2 hf2 hv2 => ?_)
      have e2 := hv2 b hab.2.2.1 hab.2.2.2
      have hfx : frx [134, 217] [] m m2 := frx_tr (frx_mono (frx_fr (K := []) hf) (by decide) (by decide)) (frx_mono (frx_fr (K := []) hf2) (by decide) (by decide))
      refine ⟨hab.2.2.1, by omega, fun c => ⟨hab.2.2.1, by omega, ?_, hfx⟩, fun c => ⟨?_, hfx⟩⟩
      · rw [e2] at c ⊢
        rw [hr2, if_neg (by omega)]
      · rw [e2] at c
        rw [hr2, if_pos (by omega)]
    refine ⟨hab.2.2.1, by omega, fun c => ⟨hab.2.2.1, by omega, key _ ?_⟩, fun c => key _ ?_⟩
    · rw [e] at c ⊢
      unfold enc at c ⊢
      split <;> omega
    · rw [e] at c
      unfold enc at c
      rw [if_pos]
      apply Classical.byContradiction
      intro hn
      rw [if_neg hn] at c
      omega
  · have k2 : ML iX11_told [(2, 139), (0, a), (0, b)] m (fun r' m2 => -1 = r' ∧ frx [134, 217] [] m m2) := by
      refine sX11_told (sX11_isIn ⟨fun c => ⟨fun _ => ⟨rfl, frx_rf⟩, fun c => absurd rfl c⟩, fun _ => ⟨fun c => ⟨fun _ => ⟨rfl, frx_rf⟩, fun c => absurd rfl c⟩, fun _ => ⟨fun c => absurd c (by decide), fun _ => sX11_isIn ⟨fun c => ⟨fun z => absurd rfl z, fun _ => ⟨rfl, frx_rf⟩⟩, fun _ => ⟨fun c => ⟨fun z => absurd rfl z, fun _ => ⟨rfl, frx_rf⟩⟩, fun _ => absurd (by omega) hab⟩⟩⟩⟩⟩)
    refine sX10_told (sX10_within ⟨fun c => ⟨fun _ => k2, fun c => absurd rfl c⟩, fun _ => ⟨fun c => ⟨fun _ => k2, fun c => absurd rfl c⟩, fun _ => ⟨fun c => absurd c (by decide), fun _ => sX10_within ⟨fun c => ⟨fun z => absurd rfl z, fun _ => k2⟩, fun _ => ⟨fun c => ⟨fun z => absurd rfl z, fun _ => k2⟩, fun _ => absurd (by omega) hab⟩⟩⟩⟩⟩)
noncomputable def snMany (d : jM) (a : Int) : Nat → Int
  | 0 => 0
  | k + 1 => snMany d a k + if dst (12 : Nat) (snE d) a k = -1 then 0 else 1
noncomputable def snEnd (d : jM) (a : Int) : Nat → Int
  | 0 => 0
  | k + 1 => if dst (12 : Nat) (snE d) a k = -1 then snEnd d a k else max (snEnd d a k) (dst (12 : Nat) (snE d) a k)
noncomputable def snBest (d : jM) : Nat → Int × Int × Int
  | 0 => (-1, 0, 0)
  | k + 1 => if (snBest d k).2.1 < snMany d k 12 ∨ (snBest d k).2.1 = snMany d k 12 ∧ snEnd d k 12 < (snBest d k).2.2 then ((k : Int), snMany d k 12, snEnd d k 12) else snBest d k
theorem snMany_nn (d : jM) (a : Int) : ∀ k, 0 ≤ snMany d a k ∧ snMany d a k ≤ k := by
  intro k
  induction k with
  | zero => simp [snMany]
  | succ k ih => simp only [snMany]; split <;> omega
theorem snMany_pos {d : jM} (h : snK d) (a : Int) (h0 : 0 ≤ a) (h1 : a < 12) : 1 ≤ snMany d a 12 := by
  have : ∀ k : Nat, a < k → k ≤ 12 → 1 ≤ snMany d a k := by
    intro k
    induction k with
    | zero => intro h; omega
    | succ k ih =>
      intro hk hk2
      simp only [snMany]
      have h2 := (snMany_nn d a k).1
      by_cases e : a = k
      · rw [← e, dst_self (snE_ok h) h0 h1, if_neg (by decide)]
        omega
      · have := ih (by omega) (by omega)
        split <;> omega
  exact this 12 (by omega) (by omega)
theorem snEnd_nn {d : jM} (h : snK d) (a : Int) : ∀ k, 0 ≤ snEnd d a k ∧ snEnd d a k ≤ 32670 := by
  intro k
  induction k with
  | zero => simp [snEnd]
  | succ k ih =>
    simp only [snEnd]
    have := sn_bd h a k
    split <;> omega
theorem snBest_mo (d : jM) (h : snK d) : ∀ k : Nat, k ≤ 12 → ((snBest d k).1 = -1 ↔ k = 0) ∧ (k = 0 → (snBest d k).2.1 = 0) ∧ -1 ≤ (snBest d k).1 ∧ (snBest d k).1 < 12 := by
  intro k
  induction k with
  | zero => intro _; simp [snBest]
  | succ k ih =>
    intro hk
    obtain ⟨i1, i2, i3, i4⟩ := ih (by omega)
    simp only [snBest]
    split
    · simp only
      omega
    · rename_i hn
      refine ⟨?_, fun e => by omega, i3, i4⟩
      constructor
      · intro e
        have := i1.mp e
        have := i2 this
        have := snMany_pos h k (by omega) (by omega)
        omega
      · intro e
        omega
theorem c_bestFirst {d m : jM} {Q : Int → jM → Prop} (hk : snK d) (hc : snC d m) (hQ : ∀ m', fr [134] m m' → Q (snBest d 12).1 m') : ML iX5_bestFirst [(2, 133)] m Q := by
  refine sX5_bestFirst ?_
  refine lup4 (n := 12) (I := fun i m1 b mo la => 0 ≤ i ∧ i ≤ 12 ∧ fr [134] m m1 ∧ snBest d i.toNat = (b, mo, la)) (G := fun i m1 b mo la => GL iX5_bestFirst m1 9 [(2, 133), (0, b), (0, mo), (0, la), (0, i), (9, 0), (9, 0), (9, 0)] [] Q) ?_ ?_ 0 m (-1) 0 0 ⟨by decide, by decide, fr_rf, rfl⟩
  · rintro i m1 b mo la hi ⟨i0, i1, hf, hb⟩ K
    have hc1 : snC d m1 := by
      unfold snC at hc ⊢
      rw [hf 133 (by decide), hf 135 (by decide), hf 136 (by decide), hf 137 (by decide), hf 138 (by decide)]
      exact hc
    refine sX5_bestFirst_9 ⟨fun c => absurd c (by omega), fun _ => ?_⟩
    refine c_spread hk hc1 i0 hi (fun m2 hf2 hv => ?_)
    have hn : snBest d (i + 1).toNat = if mo < snMany d i 12 ∨ mo = snMany d i 12 ∧ snEnd d i 12 < la then (i, snMany d i 12, snEnd d i 12) else (b, mo, la) := by
      rw [show (i + 1).toNat = i.toNat + 1 by omega]
      simp only [snBest]
      rw [hb, Int.toNat_of_nonneg i0]
    have nx : ∀ m3, fr [134] m2 m3 → fr [134] m m3 := fun m3 h3 => fr_tr (fr_tr hf hf2) h3
    refine lup2 (n := 12) (I := fun j c e => 0 ≤ j ∧ j ≤ 12 ∧ c = snMany d i j.toNat ∧ e = snEnd d i j.toNat) (G := fun j c e => GL iX5_bestFirst m2 31 [(2, 133), (0, b), (0, mo), (0, la), (0, i), (0, c), (0, e), (0, j)] [] Q) ?_ ?_ 0 0 0 ⟨by decide, by decide, rfl, rfl⟩
    · rintro j c e hj ⟨j0, j1, rfl, rfl⟩ K2
      have ev := hv j j0 hj
      have bd := sn_bd hk i j
      have b1 := snMany_nn d i j.toNat
      have b2 := snEnd_nn hk i j.toNat
      have hjt : ((j.toNat : Nat) : Int) = j := Int.toNat_of_nonneg j0
      refine sX5_bestFirst_31 ⟨fun c => absurd c (by omega), fun _ => ⟨j0, hj, fun c => ?_, fun c => ⟨j0, hj, ?_⟩⟩⟩
      · rw [jw_id (x := j + 1) (by omega) (by omega)]
        rw [ev] at c
        unfold enc at c
        refine K2 _ _ ⟨by omega, by omega, ?_, ?_⟩
        · rw [show (j + 1).toNat = j.toNat + 1 by omega]
          simp only [snMany]
          rw [hjt]
          split at c
          · rename_i q
            rw [if_pos q]
            omega
          · omega
        · rw [show (j + 1).toNat = j.toNat + 1 by omega]
          simp only [snEnd]
          rw [hjt]
          split at c
          · rename_i q
            rw [if_pos q]
          · omega
      · rw [jw_id (x := j + 1) (by omega) (by omega), jw_id (x := snMany d i j.toNat + 1) (by omega) (by omega)]
        rw [ev] at c ⊢
        unfold enc at c ⊢
        have hq : ¬ dst (12 : Nat) (snE d) i j = -1 := by
          intro q
          rw [if_pos q] at c
          omega
        rw [if_neg hq]
        refine K2 _ _ ⟨by omega, by omega, ?_, ?_⟩
        · rw [show (j + 1).toNat = j.toNat + 1 by omega]
          simp only [snMany]
          rw [hjt, if_neg hq]
        · rw [show (j + 1).toNat = j.toNat + 1 by omega]
          simp only [snEnd]
          rw [hjt, if_neg hq]
    · rintro j c e hj ⟨j0, j1, rfl, rfl⟩
      obtain rfl : j = 12 := by omega
      rw [show Int.toNat 12 = 12 from rfl]
      refine sX5_bestFirst_31 ⟨fun _ => ?_, fun c => absurd hj c⟩
      rw [jw_id (x := i + 1) (by omega) (by omega)]
      refine ⟨fun c => K m2 _ _ _ ⟨by omega, by omega, fr_tr hf hf2, ?_⟩, fun c => ⟨fun c2 => K m2 _ _ _ ⟨by omega, by omega, fr_tr hf hf2, ?_⟩, fun c2 => ⟨fun c3 => K m2 _ _ _ ⟨by omega, by omega, fr_tr hf hf2, ?_⟩, fun c3 => K m2 _ _ _ ⟨by omega, by omega, fr_tr hf hf2, ?_⟩⟩⟩⟩
      · rw [hn, if_pos (Or.inl c)]
      · rw [hn, if_neg (fun z => z.elim c (fun z => c2 z.1.symm))]
      · rw [hn, if_neg (fun z => z.elim c (fun z => absurd z.2 (Int.not_lt.mpr c3)))]
      · rw [hn, if_pos (Or.inr ⟨by apply Classical.byContradiction; intro q; exact c2 (fun z => q z.symm), Int.not_le.mp c3⟩)]
  · rintro i m1 b mo la hi ⟨i0, i1, hf, hb⟩
    obtain rfl : i = 12 := by omega
    refine sX5_bestFirst_9 ⟨fun _ => ?_, fun c => absurd hi c⟩
    have := hQ m1 hf
    rw [show (12 : Nat) = (12 : Int).toNat from rfl, hb] at this
    exact this
theorem c_soonest {d m : jM} {Q : Int → jM → Prop} (hk : snK d) (hr : snR d m) (hQ : ∀ m', fr [217] m m' → Q (snBest d 12).1 m') : ML iX11_soonest [(2, 139)] m Q := by
  refine sX11_soonest ?_
  refine lup4 (n := 12) (I := fun i m1 b mo la => 0 ≤ i ∧ i ≤ 12 ∧ fr [217] m m1 ∧ snBest d i.toNat = (b, mo, la)) (G := fun i m1 b mo la => GL iX11_soonest m1 9 [(2, 139), (0, b), (0, mo), (0, la), (0, i), (9, 0), (9, 0), (9, 0)] [] Q) ?_ ?_ 0 m (-1) 0 0 ⟨by decide, by decide, fr_rf, rfl⟩
  · rintro i m1 b mo la hi ⟨i0, i1, hf, hb⟩ K
    have hr1 : snR d m1 := by
      unfold snR at hr ⊢
      rw [hf 139 (by decide), hf 186 (by decide), hf 187 (by decide), hf 188 (by decide)]
      exact hr
    refine sX11_soonest_9 ⟨fun c => absurd c (by omega), fun _ => ?_⟩
    refine c_snow hk hr1 i0 hi (fun m2 hf2 hv => ?_)
    have hn : snBest d (i + 1).toNat = if mo < snMany d i 12 ∨ mo = snMany d i 12 ∧ snEnd d i 12 < la then (i, snMany d i 12, snEnd d i 12) else (b, mo, la) := by
      rw [show (i + 1).toNat = i.toNat + 1 by omega]
      simp only [snBest]
      rw [hb, Int.toNat_of_nonneg i0]
    have hmo := snBest_mo d hk i.toNat (by omega)
    rw [hb] at hmo
    simp only at hmo
    have hpos := snMany_pos hk i i0 hi
    refine lup2 (n := 12) (I := fun j c e => 0 ≤ j ∧ j ≤ 12 ∧ c = snMany d i j.toNat ∧ e = snEnd d i j.toNat) (G := fun j c e => GL iX11_soonest m2 31 [(2, 139), (0, b), (0, mo), (0, la), (0, i), (0, c), (0, e), (0, j)] [] Q) ?_ ?_ 0 0 0 ⟨by decide, by decide, rfl, rfl⟩
    · rintro j c e hj ⟨j0, j1, rfl, rfl⟩ K2
      have ev := hv j j0 hj
      have bd := sn_bd hk i j
      have b1 := snMany_nn d i j.toNat
      have b2 := snEnd_nn hk i j.toNat
      have hjt : ((j.toNat : Nat) : Int) = j := Int.toNat_of_nonneg j0
      have n1 : snMany d i (j + 1).toNat = snMany d i j.toNat + if dst (12 : Nat) (snE d) i j = -1 then 0 else 1 := by
        rw [show (j + 1).toNat = j.toNat + 1 by omega]
        simp only [snMany]
        rw [hjt]
      have n2 : snEnd d i (j + 1).toNat = if dst (12 : Nat) (snE d) i j = -1 then snEnd d i j.toNat else max (snEnd d i j.toNat) (dst (12 : Nat) (snE d) i j) := by
        rw [show (j + 1).toNat = j.toNat + 1 by omega]
        simp only [snEnd]
        rw [hjt]
      refine sX11_soonest_31 ?_
      rw [jw_id (x := j + 1) (by omega) (by omega), jw_id (x := snMany d i j.toNat + 1) (by omega) (by omega), ev]
      refine ⟨fun c => absurd c (by omega), fun _ => ⟨j0, hj, fun c => ⟨j0, hj, fun c2 => ?_, fun c2 => ⟨j0, hj, ?_⟩⟩, fun c => ?_⟩⟩
      · refine K2 _ _ ⟨by omega, by omega, ?_, ?_⟩
        · rw [n1, if_neg (by omega)]
        · rw [n2, if_neg (by omega), Int.max_eq_left c2]
      · refine K2 _ _ ⟨by omega, by omega, ?_, ?_⟩
        · rw [n1, if_neg (by omega)]
        · rw [n2, if_neg (by omega), Int.max_eq_right (by omega)]
      · refine K2 _ _ ⟨by omega, by omega, ?_, ?_⟩
        · rw [n1, if_pos (by omega)]
          omega
        · rw [n2, if_pos (by omega)]
    · rintro j c e hj ⟨j0, j1, rfl, rfl⟩
      obtain rfl : j = 12 := by omega
      rw [show Int.toNat 12 = 12 from rfl]
      refine sX11_soonest_31 ⟨fun _ => ?_, fun c => absurd hj c⟩
      rw [jw_id (x := i + 1) (by omega) (by omega)]
      refine ⟨fun c => K m2 _ _ _ ⟨by omega, by omega, fr_tr hf hf2, ?_⟩, fun c => ⟨fun c2 => K m2 _ _ _ ⟨by omega, by omega, fr_tr hf hf2, ?_⟩, fun c2 => ⟨fun c3 => K m2 _ _ _ ⟨by omega, by omega, fr_tr hf hf2, ?_⟩, fun c3 => ⟨fun c4 => K m2 _ _ _ ⟨by omega, by omega, fr_tr hf hf2, ?_⟩, fun c4 => K m2 _ _ _ ⟨by omega, by omega, fr_tr hf hf2, ?_⟩⟩⟩⟩⟩
      · rw [hn, if_pos (Or.inl (by omega))]
      · rw [hn, if_neg (by omega)]
      · rw [hn, if_pos (Or.inl (by omega))]
      · rw [hn, if_pos (Or.inr (by omega))]
      · rw [hn, if_neg (by omega)]
  · rintro i m1 b mo la hi ⟨i0, i1, hf, hb⟩
    obtain rfl : i = 12 := by omega
    refine sX11_soonest_9 ⟨fun _ => ?_, fun c => absurd hi c⟩
    have := hQ m1 hf
    rw [show (12 : Nat) = (12 : Int).toNat from rfl, hb] at this
    exact this
theorem p_soonest {m : jM} (h : snInv m) : ML iX10_soonest [(2, 0)] m (fun r m1 => ML iX11_soonest [(2, 139)] m1 (fun r' m2 => r = r' ∧ frx [134, 217] [] m m2)) := by
  refine sX10_soonest (c_bestFirst h.1 h.2 (fun m1 hf => ?_))
  have hr : snR m m1 := ⟨by rw [hf 139 (by decide)], hf 186 (by decide), hf 187 (by decide), hf 188 (by decide)⟩
  exact c_soonest h.1 hr (fun m2 hf2 => ⟨rfl, frx_tr (frx_mono (frx_fr (K := []) hf) (by decide) (by decide)) (frx_mono (frx_fr (K := []) hf2) (by decide) (by decide))⟩)
theorem p_call {m : jM} {a b c : Int} (h : snInv m) : ML iX10_call [(2, 0), (0, a), (0, b), (0, c)] m (fun r m1 => ML iX11_call [(2, 139), (0, a), (0, b), (0, c)] m1 (fun r' m2 => r = r' ∧ snInv m2 ∧ frx (133 :: [135, 136, 137, 138, 186, 187, 188]) [(139, 60)] m m2)) := by
  obtain ⟨hk, hc⟩ := h
  have k1 := hk.1
  have k2 := hk.2.1
  have hno : ¬ (0 ≤ a ∧ a < 12 ∧ 0 ≤ b ∧ b < 12 ∧ a ≠ b ∧ 1 ≤ c ∧ c ≤ 99 ∧ m 139 60 < 30) → ML iX11_call [(2, 139), (0, a), (0, b), (0, c)] m (fun r' m2 => -1 = r' ∧ snInv m2 ∧ frx (133 :: [135, 136, 137, 138, 186, 187, 188]) [(139, 60)] m m2) := by
    intro hn
    have fin : (-1 : Int) = -1 ∧ snInv m ∧ frx (133 :: [135, 136, 137, 138, 186, 187, 188]) [(139, 60)] m m := ⟨rfl, ⟨hk, hc⟩, frx_rf⟩
    refine sX11_call ⟨fun _ => fin, fun q1 => sX11_isIn ⟨fun _ => ⟨fun _ => fin, fun z => absurd rfl z⟩, fun q2 => ⟨fun _ => ⟨fun _ => fin, fun z => absurd rfl z⟩, fun q3 => ⟨fun z => absurd z (by decide), fun _ => sX11_isIn ⟨fun _ => ⟨fun _ => fin, fun z => absurd rfl z⟩, fun q4 => ⟨fun _ => ⟨fun _ => fin, fun z => absurd rfl z⟩, fun q5 => ⟨fun z => absurd z (by decide), fun _ => ⟨fun _ => fin, fun q6 => sX11_isIn ⟨fun _ => ⟨fun z => absurd rfl z, fun _ => fin⟩, fun q7 => ⟨fun _ => ⟨fun z => absurd rfl z, fun _ => fin⟩, fun q8 => absurd (by omega) hn⟩⟩⟩⟩⟩⟩⟩⟩⟩⟩
  refine sX10_call (sX10_within ⟨fun q => ⟨fun _ => hno (by omega), fun z => absurd rfl z⟩, fun q1 => ⟨fun q => ⟨fun _ => hno (by omega), fun z => absurd rfl z⟩, fun q2 => ⟨fun z => absurd z (by decide), fun _ => sX10_within ⟨fun q => ⟨fun _ => hno (by omega), fun z => absurd rfl z⟩, fun q3 => ⟨fun q => ⟨fun _ => hno (by omega), fun z => absurd rfl z⟩, fun q4 => ⟨fun z => absurd z (by decide), fun _ => ⟨fun q => hno (by omega), fun q5 => ⟨fun q => hno (by omega), fun q6 => ⟨fun q7 => ?_, fun q => hno (by omega)⟩⟩⟩⟩⟩⟩⟩⟩⟩)
  refine sX5_add ?_
  rw [hc.1]
  refine ⟨fun q8 => ⟨by omega, by omega, by omega, by omega, k1, q8, k1, q8, by omega, by omega, k1, q8, ?_⟩, fun q => hno (by omega)⟩
  generalize hm1 : (jup (jup (jup (jup (jup m 138 a (jw (m 138 a + c))) 135 (m 139 60) a) 136 (m 139 60) b) 137 (m 139 60) (jw (m 138 a + c))) 133 0 (jw (m 139 60 + 1))) = m1
  have f1 : frx (133 :: [135, 136, 137, 138, 186, 187, 188]) [(139, 60)] m m1 := by
    rw [← hm1]
    exact frx_upA (frx_upA (frx_upA (frx_upA (frx_upA frx_rf (by decide)) (by decide)) (by decide)) (by decide)) (by decide)
  have e60 : m1 139 60 = m 139 60 := by subst hm1; rfl
  refine sX11_call ?_
  refine ⟨fun z => absurd z (by omega), fun _ => sX11_isIn ⟨fun z => absurd z (by omega), fun _ => ⟨fun z => absurd z (by omega), fun _ => ⟨fun z => absurd z (by decide), fun _ => sX11_isIn ⟨fun z => absurd z (by omega), fun _ => ⟨fun z => absurd z (by omega), fun _ => ⟨fun z => absurd z (by decide), fun _ => ⟨fun z => absurd z (by omega), fun _ => sX11_isIn ⟨fun z => absurd z (by omega), fun _ => ⟨fun z => absurd z (by omega), fun _ => ⟨fun _ => ?_, fun z => absurd (by decide) z⟩⟩⟩⟩⟩⟩⟩⟩⟩⟩⟩
  rw [e60]
  refine ⟨k1, q8, k1, q8, k1, q8, rfl, ?_, frx_upF (frx_upA (frx_upA (frx_upA f1 (by decide)) (by decide)) (by decide)) (by decide)⟩
  have hla := hc.2.2 a (by omega) (by omega)
  have hbd := psum_bd (A := m 186) (T := m 188) (a := a) (L := 99) (by decide) (m 139 60).toNat (fun i hi => by have := hk.2.2 i (by omega) (by omega); omega)
  rw [← hla] at hbd
  have hmx : ((m 139 60).toNat : Int) * 99 ≤ 30 * 99 := Int.mul_le_mul_of_nonneg_right (by omega) (by decide)
  rw [jw_id (x := m 139 60 + 1) (by omega) (by omega)] at hm1 ⊢
  rw [jw_id (x := m 138 a + c) (by omega) (by omega)] at hm1
  generalize hm2 : jup (jup (jup (jup m1 186 (m 139 60) a) 187 (m 139 60) b) 188 (m 139 60) c) 139 60 (m 139 60 + 1) = m2
  have g60 : m2 139 60 = m 139 60 + 1 := by subst hm2; rfl
  have gA : ∀ i, m2 186 i = if i = m 139 60 then a else m 186 i := by intro i; subst hm2; subst hm1; simp [jup]
  have gB : ∀ i, m2 187 i = if i = m 139 60 then b else m 187 i := by intro i; subst hm2; subst hm1; simp [jup]
  have gC : ∀ i, m2 188 i = if i = m 139 60 then c else m 188 i := by intro i; subst hm2; subst hm1; simp [jup]
  have g1 : ∀ i, m2 135 i = if i = m 139 60 then a else m 135 i := by intro i; subst hm2; subst hm1; simp [jup]
  have g2 : ∀ i, m2 136 i = if i = m 139 60 then b else m 136 i := by intro i; subst hm2; subst hm1; simp [jup]
  have g3 : ∀ i, m2 137 i = if i = m 139 60 then m 138 a + c else m 137 i := by intro i; subst hm2; subst hm1; simp [jup]
  have g4 : ∀ i, m2 138 i = if i = a then m 138 a + c else m 138 i := by intro i; subst hm2; subst hm1; simp [jup]
  have g5 : m2 133 0 = m 139 60 + 1 := by subst hm2; subst hm1; simp [jup]
  have hps : ∀ (x : Int) (k : Nat), (k : Int) ≤ m 139 60 → psum (m2 186) (m2 188) x k = psum (m 186) (m 188) x k := fun x k hk => psum_cg k (fun i hi => ⟨by rw [gA, if_neg (by omega)], by rw [gC, if_neg (by omega)]⟩)
  refine ⟨⟨by omega, by omega, fun i i0 i1 => ?_⟩, by omega, fun i i0 i1 => ?_, fun x x0 x1 => ?_⟩
  · rw [gA, gB, gC]
    by_cases e : i = m 139 60
    · rw [if_pos e, if_pos e, if_pos e]; omega
    · rw [if_neg e, if_neg e, if_neg e]; exact hk.2.2 i i0 (by omega)
  · unfold snD
    rw [g1, g2, g3, gA, gB]
    by_cases e : i = m 139 60
    · rw [if_pos e, if_pos e, if_pos e, if_pos e, if_pos e]
      refine ⟨rfl, rfl, ?_⟩
      rw [e]
      simp only [psum]
      rw [hps _ _ (by omega), Int.toNat_of_nonneg k1, gA, gC, if_pos rfl, if_pos rfl, if_pos rfl, hla]
    · rw [if_neg e, if_neg e, if_neg e, if_neg e, if_neg e]
      have := hc.2.1 i i0 (by omega)
      rw [hps _ _ (by omega)]
      exact this
  · rw [g4, g60, show (m 139 60 + 1).toNat = (m 139 60).toNat + 1 by omega]
    simp only [psum]
    rw [hps _ _ (by omega), Int.toNat_of_nonneg k1, gA, gC, if_pos rfl, if_pos rfl, ← hc.2.2 x x0 x1]
    by_cases e : x = a
    · rw [if_pos e, if_pos e.symm, e]
    · rw [if_neg e, if_neg (fun z => e z.symm)]
      omega

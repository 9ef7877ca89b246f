/-! snow in the reference -/
theorem wfm2 {σ τ : Type} (μ : σ → τ → Nat) {P G : σ → τ → Prop} (h : ∀ s t, P s t → (∀ s' t', μ s' t' < μ s t → P s' t' → G s' t') → G s t) (s : σ) (t : τ) (hs : P s t) : G s t :=
  wfm (σ := σ × τ) (fun p => μ p.1 p.2) (P := fun p => P p.1 p.2) (G := fun p => G p.1 p.2) (fun p h1 k => h p.1 p.2 h1 (fun s' t' h2 h3 => k (s', t') h2 h3)) (s, t) hs
def sumN (f : Int → Int) : Nat → Int
  | 0 => 0
  | k + 1 => sumN f k + f k
theorem sumN_cg {f g : Int → Int} : ∀ (n : Nat), (∀ i : Int, 0 ≤ i → i < n → f i = g i) → sumN f n = sumN g n := by
  intro n
  induction n with
  | zero => intro _; rfl
  | succ n ih => intro h; simp only [sumN]; rw [ih (fun i h0 h1 => h i h0 (by omega)), h n (by omega) (by omega)]
theorem sumN_up {f g : Int → Int} {j : Int} : ∀ (n : Nat), 0 ≤ j → j < n → (∀ i : Int, 0 ≤ i → i < n → i ≠ j → g i = f i) → sumN g n = sumN f n + g j - f j := by
  intro n
  induction n with
  | zero => intro h0 h1; omega
  | succ n ih =>
    intro h0 h1 h
    simp only [sumN]
    by_cases hj : j = n
    · subst hj
      rw [sumN_cg n (g := f) (fun i i0 i1 => h i i0 (by omega) (by omega))]
      omega
    · rw [ih h0 (by omega) (fun i i0 i1 => h i i0 (by omega)), h n (by omega) (by omega) (fun e => hj e.symm)]
      omega
theorem sumN_ge {f : Int → Int} {L : Int} : ∀ (n : Nat), (∀ i : Int, 0 ≤ i → i < n → L ≤ f i) → (n : Int) * L ≤ sumN f n := by
  intro n
  induction n with
  | zero => intro _; simp [sumN]
  | succ n ih =>
    intro h
    have h1 := ih (fun i i0 i1 => h i i0 (by omega))
    have h2 := h n (by omega) (by omega)
    simp only [sumN]
    rw [show ((n + 1 : Nat) : Int) * L = (n : Int) * L + L by rw [Int.natCast_add, Int.add_mul]; simp]
    omega
theorem sumN_le {f : Int → Int} {L : Int} : ∀ (n : Nat), (∀ i : Int, 0 ≤ i → i < n → f i ≤ L) → sumN f n ≤ (n : Int) * L := by
  intro n
  induction n with
  | zero => intro _; simp [sumN]
  | succ n ih =>
    intro h
    have h1 := ih (fun i i0 i1 => h i i0 (by omega))
    have h2 := h n (by omega) (by omega)
    simp only [sumN]
    rw [show ((n + 1 : Nat) : Int) * L = (n : Int) * L + L by rw [Int.natCast_add, Int.add_mul]; simp]
    omega
/-- the reference's memory holds what d tells of the calls -/
def snR (d m : jM) : Prop := m 139 60 = d 139 60 ∧ m 186 = d 186 ∧ m 187 = d 187 ∧ m 188 = d 188
def inf (v : Int) : Int := if v < 0 then 268435456 else v
def snMu (t : Int → Int) : Int := sumN (fun b => if t b < 0 then 40000 else t b) 12
def snCt (t : Int → Int) : Int := sumN (fun b => if t b < 0 then 0 else 1) 12
/-- what is known of hears -/
def snH (d : jM) (a : Int) (t : Int → Int) : Prop := bfS (12 : Nat) (snE d) a 268435456 (fun b => inf (t b)) ∧ t a = 0 ∧ (∀ b, 0 ≤ b → b < 12 → -1 ≤ t b ∧ t b ≤ 2970 * (snCt t - 1)) ∧ 0 ≤ a ∧ a < 12
theorem snCt_le {t : Int → Int} : snCt t ≤ 12 := by
  have := sumN_le (f := fun b => if t b < 0 then 0 else 1) (L := 1) 12 (fun i _ _ => by split <;> omega)
  unfold snCt
  omega
theorem snH_bd {d : jM} {a : Int} {t : Int → Int} (h : snH d a t) {b : Int} (b0 : 0 ≤ b) (b1 : b < 12) : -1 ≤ t b ∧ t b ≤ 32670 := by
  have := h.2.2.1 b b0 b1
  have := snCt_le (t := t)
  omega
theorem snMu_nn {d : jM} {a : Int} {t : Int → Int} (h : snH d a t) : 0 ≤ snMu t := by
  have := sumN_ge (f := fun b => if t b < 0 then 40000 else t b) (L := 0) 12 (fun i i0 i1 => by split <;> omega)
  unfold snMu
  omega
/-- b hears earlier -/
theorem snH_up {d : jM} {a b v : Int} {t t' : Int → Int} (h : snH d a t) (b0 : 0 ≤ b) (b1 : b < 12) (hne : ∀ c, 0 ≤ c → c < 12 → c ≠ b → t' c = t c) (hb : t' b = v) (hv : 0 ≤ v) (hlt : v < t b ∨ (t b < 0 ∧ v ≤ 2970 * snCt t ∧ v ≤ 36000)) (hw : ∃ k, walk (12 : Nat) (snE d) k a b v) : snH d a t' ∧ snMu t' < snMu t ∧ snCt t ≤ snCt t' := by
  have hb2 := snH_bd h b0 b1
  have hba : b ≠ a := by
    intro e
    subst e
    have := h.2.1
    omega
  have hC : snCt t' = snCt t + (if t b < 0 then 1 else 0) := by
    unfold snCt
    rw [sumN_up (f := fun b => if t b < 0 then 0 else 1) (g := fun b => if t' b < 0 then 0 else 1) 12 b0 b1 (fun i i0 i1 hi => by rw [hne i i0 i1 hi])]
    simp only [hb, show ¬ v < 0 by omega, if_false]
    split <;> omega
  have hM : snMu t' = snMu t + v - (if t b < 0 then 40000 else t b) := by
    unfold snMu
    rw [sumN_up (f := fun b => if t b < 0 then 40000 else t b) (g := fun b => if t' b < 0 then 40000 else t' b) 12 b0 b1 (fun i i0 i1 hi => by rw [hne i i0 i1 hi])]
    simp only [hb, show ¬ v < 0 by omega, if_false]
  have hle := snCt_le (t := t)
  have hvb : v ≤ 2970 * (snCt t' - 1) := by
    rw [hC]
    rcases hlt with q | ⟨q, p3, p4⟩
    · have := h.2.2.1 b b0 b1
      split <;> omega
    · rw [if_pos q]
      omega
  refine ⟨⟨fun c c0 c1 => ?_, ?_, fun c c0 c1 => ?_, h.2.2.2⟩, ?_, ?_⟩
  · by_cases hc : c = b
    · subst hc
      simp only [hb, inf, show ¬ v < 0 by omega, if_false]
      have := snCt_le (t := t')
      exact ⟨by omega, fun _ => hw⟩
    · simp only [hne c c0 c1 hc]
      exact h.1 c c0 c1
  · rw [hne a h.2.2.2.1 h.2.2.2.2 (Ne.symm hba)]
    exact h.2.1
  · by_cases hc : c = b
    · subst hc
      omega
    · rw [hne c c0 c1 hc]
      have := h.2.2.1 c c0 c1
      rw [hC]
      split <;> omega
  · rw [hM]
    rcases hlt with q | ⟨q, p3, p4⟩
    · rw [if_neg (by omega)]
      omega
    · rw [if_pos q]
      omega
  · rw [hC]
    split <;> omega
def snF (d : jM) (t : Int → Int) (p : Int) : Prop := ∀ j, 0 ≤ j → j < d 139 60 → d 186 j < p → 0 ≤ t (d 186 j) → 0 ≤ t (d 187 j) ∧ t (d 187 j) ≤ t (d 186 j) + snD d j
theorem c_snow {d m : jM} {Q : Int → jM → Prop} {a : Int} (hk : snK d) (hr : snR d m) (h0 : 0 ≤ a) (h1 : a < 12) (hQ : ∀ m', fr [217] m m' → (∀ b, 0 ≤ b → b < 12 → m' 217 b = dst (12 : Nat) (snE d) a b) → Q 0 m') : ML iX11_snow [(2, 139), (0, a)] m Q := by
  have g := snE_ok hk
  have hend : ∀ m', fr [217] m m' → snH d a (m' 217) → snF d (m' 217) 12 → Q 0 m' := by
    intro m' hf hH hF
    refine hQ m' hf (fun b b0 b1 => ?_)
    have e := bf_end g hH.1 (bf_fix g (by simp only [inf]; rw [hH.2.1]; decide) (by
      rintro x y l ⟨j, j0, j1, rfl, rfl, rfl⟩
      have qk := hk.2.2 j j0 j1
      have qd := snD_bd hk j0 j1
      have := hF j j0 j1 (by omega)
      have := (hH.1 _ qk.2.2.1 qk.2.2.2.1).1
      simp only [inf] at this ⊢
      split <;> split <;> omega)) b0 b1 (by have := sn_bd hk a b; omega) (by decide)
    have := sn_bd hk a b
    have := snH_bd hH b0 b1
    simp only [inf] at e
    split at e <;> split at e <;> omega
  have hi30 := hk.2.1
  have hloop : ∀ m1, fr [217] m m1 → snH d a (m1 217) → GL iX11_snow m1 32 [(2, 139), (9, 0), (0, 1), (9, 0), (9, 0), (9, 0)] [] Q := by
    intro m1 hf1 hH1
    refine wfm2 (fun (m1 : jM) (x : Int) => 2 * (snMu (m1 217)).toNat + (if x = 0 then 0 else 1)) (P := fun m1 x => fr [217] m m1 ∧ snH d a (m1 217) ∧ (x = 0 → snF d (m1 217) 12)) (G := fun m1 x => GL iX11_snow m1 32 [(2, 139), (9, 0), (0, x), (9, 0), (9, 0), (9, 0)] [] Q) ?_ m1 1 ⟨hf1, hH1, fun h => absurd h (by decide)⟩
    rintro m1 x ⟨hf, hH, hF⟩ K
    refine sX11_snow_32 ⟨fun e => hend m1 hf hH (hF e), fun hx => ?_⟩
    refine lup2 (n := 12) (I := fun p m2 fl => 0 ≤ p ∧ fr [217] m m2 ∧ snH d a (m2 217) ∧ (fl = 0 → m2 = m1 ∧ snF d (m1 217) p) ∧ (fl = 0 ∨ snMu (m2 217) < snMu (m1 217))) (G := fun p m2 fl => GL iX11_snow m2 40 [(2, 139), (9, 0), (0, fl), (0, p), (9, 0), (9, 0)] [] Q) ?_ ?_ 0 m1 0 ⟨by decide, hf, hH, fun _ => ⟨rfl, fun j j0 j1 j2 => by have := hk.2.2 j j0 j1; omega⟩, Or.inl rfl⟩
    · rintro p m2 fl hp ⟨p0, hf2, hH2, hz, hmu⟩ K2
      refine sX11_snow_40 ⟨fun c => absurd c (by omega), fun _ => ⟨p0, hp, fun hp2 => ⟨p0, hp, ?_⟩, fun hp2 => ?_⟩⟩
      · have hpb := snH_bd hH2 p0 hp
        obtain ⟨kp, hwp⟩ := (hH2.1 p p0 hp).2 (by simp only [inf]; rw [if_neg (by omega)]; omega)
        simp only [inf] at hwp
        rw [if_neg (by omega)] at hwp
        generalize htp : m2 217 p = tp at hwp hpb hp2
        refine lup3 (n := d 139 60) (I := fun i m3 f3 tm => 0 ≤ i ∧ i ≤ d 139 60 ∧ fr [217] m m3 ∧ snH d a (m3 217) ∧ tm = tp + psum (d 186) (d 188) p i.toNat ∧ (f3 = 0 → m3 = m1 ∧ snF d (m1 217) p ∧ ∀ j, 0 ≤ j → j < i → d 186 j = p → 0 ≤ m1 217 (d 187 j) ∧ m1 217 (d 187 j) ≤ tp + snD d j) ∧ (f3 = 0 → m1 217 p = tp) ∧ (f3 = 0 ∨ snMu (m3 217) < snMu (m1 217)) ∧ tp ≤ 2970 * (snCt (m3 217) - 1)) (G := fun i m3 f3 tm => GL iX11_snow m3 69 [(2, 139), (9, 0), (0, f3), (0, p), (0, tm), (0, i)] [] Q) ?_ ?_ 0 m2 fl tp ⟨by decide, hk.1, hf2, hH2, by simp [psum], fun e => ⟨(hz e).1, (hz e).2, fun j j0 j1 => by omega⟩, fun e => by rw [← (hz e).1]; exact htp, hmu, by have := (hH2.2.2.1 p p0 hp).2; omega⟩
        · rintro i m3 f3 tm hi ⟨i0, -, hf3, hH3, rfl, hz3, hz4, hmu3, hp3⟩ K3
          have e1 := hf3 139 (by decide)
          have e2 := hf3 186 (by decide)
          have e3 := hf3 187 (by decide)
          have e4 := hf3 188 (by decide)
          have qk := hk.2.2 i i0 hi
          have qd := snD_bd hk i0 hi
          have hps : d 186 i = p → psum (d 186) (d 188) p i.toNat + d 188 i = snD d i := by
            intro e
            unfold snD
            simp only [psum]
            rw [Int.toNat_of_nonneg i0, if_pos rfl, e]
          have hpn : psum (d 186) (d 188) p (i + 1).toNat = psum (d 186) (d 188) p i.toNat + if d 186 i = p then d 188 i else 0 := by
            rw [show (i + 1).toNat = i.toNat + 1 by omega]
            simp only [psum]
            rw [Int.toNat_of_nonneg i0]
          refine sX11_snow_69 ?_
          rw [e1, e2, e3, e4, hr.1, hr.2.1, hr.2.2.1, hr.2.2.2, jw_id (x := i + 1) (by omega) (by omega)]
          have hB := snH_bd hH3 qk.2.2.1 qk.2.2.2.1
          refine ⟨fun c => absurd c (by omega), fun _ => ⟨i0, by omega, fun hA => ?_, fun hA => ?_⟩⟩
          · have hps := hps hA
            rw [jw_id (by omega) (by omega)]
            have hwB : ∃ k, walk (12 : Nat) (snE d) k a (d 187 i) (tp + psum (d 186) (d 188) p i.toNat + d 188 i) := ⟨kp + 1, p, tp, snD d i, hwp, ⟨i, i0, hi, hA, rfl, rfl⟩, by omega⟩
            have hup : (m3 217 (d 187 i) < 0 ∨ tp + psum (d 186) (d 188) p i.toNat + d 188 i < m3 217 (d 187 i)) → GL iX11_snow (jup m3 217 (d 187 i) (tp + psum (d 186) (d 188) p i.toNat + d 188 i)) 69 [(2, 139), (9, 0), (0, 1), (0, p), (0, tp + psum (d 186) (d 188) p i.toNat + d 188 i), (0, i + 1)] [] Q := by
              intro hc
              have H := snH_up (v := tp + psum (d 186) (d 188) p i.toNat + d 188 i) hH3 (t' := jup m3 217 (d 187 i) (tp + psum (d 186) (d 188) p i.toNat + d 188 i) 217) qk.2.2.1 qk.2.2.2.1 (fun c _ _ hc => by rw [jup_self, if_neg hc]) (by rw [jup_self, if_pos rfl]) (by omega) (by
                rcases hc with q | q
                · exact Or.inr ⟨q, by omega, by omega⟩
                · exact Or.inl q) hwB
              refine K3 _ 1 _ ⟨by omega, by omega, fr_up hf3 (by decide), H.1, by rw [hpn, if_pos hA]; omega, fun h => absurd h (by decide), fun h => absurd h (by decide), Or.inr ?_, ?_⟩
              · rcases hmu3 with q | q
                · rw [← (hz3 q).1]; exact H.2.1
                · have := H.2.1; omega
              · have := H.2.2
                omega
            refine ⟨i0, by omega, i0, by omega, qk.2.2.1, qk.2.2.2.1, fun c => ⟨i0, by omega, qk.2.2.1, qk.2.2.2.1, hup (Or.inl c)⟩, fun c => ⟨i0, by omega, qk.2.2.1, qk.2.2.2.1, fun c2 => ⟨i0, by omega, qk.2.2.1, qk.2.2.2.1, hup (Or.inr c2)⟩, fun c2 => ?_⟩⟩
            refine K3 m3 f3 _ ⟨by omega, by omega, hf3, hH3, by rw [hpn, if_pos hA]; omega, fun e => ⟨(hz3 e).1, (hz3 e).2.1, fun j j0 j1 hj => ?_⟩, hz4, hmu3, hp3⟩
            by_cases hji : j = i
            · subst hji
              rw [← (hz3 e).1]
              omega
            · exact (hz3 e).2.2 j j0 (by omega) hj
          · refine K3 m3 f3 _ ⟨by omega, by omega, hf3, hH3, by rw [hpn, if_neg hA]; omega, fun e => ⟨(hz3 e).1, (hz3 e).2.1, fun j j0 j1 hj => ?_⟩, hz4, hmu3, hp3⟩
            by_cases hji : j = i
            · subst hji
              exact absurd hj hA
            · exact (hz3 e).2.2 j j0 (by omega) hj
        · rintro i m3 f3 tm hi ⟨i0, i1, hf3, hH3, rfl, hz3, hz4, hmu3, hp3⟩
          obtain rfl : i = d 139 60 := by omega
          have e1 := hf3 139 (by decide)
          refine sX11_snow_69 ?_
          rw [e1, hr.1, jw_id (x := p + 1) (by omega) (by omega)]
          refine ⟨fun _ => K2 m3 f3 ⟨by omega, hf3, hH3, fun e => ⟨(hz3 e).1, fun j j0 j1 j2 j3 => ?_⟩, hmu3⟩, fun c => absurd (Int.le_refl _) c⟩
          by_cases hj : d 186 j = p
          · have := (hz3 e).2.2 j j0 j1 hj
            rw [hj, hz4 e]
            exact this
          · exact (hz3 e).2.1 j j0 j1 (by omega) j3
      · rw [jw_id (x := p + 1) (by omega) (by omega)]
        refine K2 m2 fl ⟨by omega, hf2, hH2, fun e => ⟨(hz e).1, fun j j0 j1 j2 j3 => ?_⟩, hmu⟩
        by_cases hj : d 186 j = p
        · rw [hj, ← (hz e).1] at j3
          exact absurd j3 hp2
        · exact (hz e).2 j j0 j1 (by omega) j3
    · rintro p m2 fl hp ⟨p0, hf2, hH2, hz, hmu⟩
      refine sX11_snow_40 ⟨fun _ => K m2 fl ?_ ⟨hf2, hH2, fun e => ?_⟩, fun c => absurd hp c⟩
      · have := snMu_nn hH
        have := snMu_nn hH2
        rcases hmu with q | q
        · rw [(hz q).1, if_pos q, if_neg hx]
          omega
        · rw [if_neg hx]
          split <;> omega
      · obtain ⟨rfl, h2⟩ := hz e
        intro j j0 j1 j2
        exact h2 j j0 j1 (by omega)
  refine sX11_snow ?_
  refine lup (n := 12) (I := fun i m1 => 0 ≤ i ∧ i ≤ 12 ∧ fr [217] m m1 ∧ ∀ b, 0 ≤ b → b < i → m1 217 b = if b = a then 0 else -1) (G := fun i m1 => GL iX11_snow m1 2 [(2, 139), (0, a), (0, i), (9, 0), (9, 0), (9, 0)] [] Q) ?_ ?_ 0 m ⟨by decide, by decide, fr_rf, fun b b0 b1 => by omega⟩
  · rintro i m1 hi ⟨i0, i1, hf, hb⟩ K
    refine sX11_snow_2 ?_
    rw [jw_id (x := i + 1) (by omega) (by omega)]
    refine ⟨fun c => absurd c (by omega), fun _ => ⟨fun c => ⟨i0, hi, K _ ⟨by omega, by omega, fr_up hf (by decide), fun b b0 b1 => ?_⟩⟩, fun c => ⟨i0, hi, K _ ⟨by omega, by omega, fr_up hf (by decide), fun b b0 b1 => ?_⟩⟩⟩⟩
    · rw [jup_self]
      by_cases hbi : b = i
      · rw [if_pos hbi, if_neg (by omega)]
      · rw [if_neg hbi]; exact hb b b0 (by omega)
    · rw [jup_self]
      by_cases hbi : b = i
      · rw [if_pos hbi, if_pos (by omega)]
      · rw [if_neg hbi]; exact hb b b0 (by omega)
  · rintro i m1 hi ⟨i0, i1, hf, hb⟩
    obtain rfl : i = 12 := by omega
    refine sX11_snow_2 ⟨fun _ => hloop m1 hf ?_, fun c => absurd hi c⟩
    have hct : snCt (m1 217) = 1 := by
      have e : sumN (fun b => if m1 217 b < 0 then 0 else 1) 12 = sumN (fun b => if b = a then 1 else 0) 12 := sumN_cg 12 (fun b b0 b1 => by
        rw [hb b b0 b1]
        by_cases hba : b = a
        · rw [if_pos hba, if_pos hba]; decide
        · rw [if_neg hba, if_neg hba]; decide)
      have e2 : sumN (fun b => if b = a then 1 else 0) 12 = sumN (fun _ => 0) 12 + 1 - 0 := by
        rw [sumN_up (f := fun _ => 0) (j := a) 12 h0 h1 (fun i i0 i1 hi => by rw [if_neg hi])]
        simp
      have e3 : sumN (fun _ => 0) 12 = 0 := by decide
      unfold snCt
      omega
    refine ⟨fun b b0 b1 => ?_, ?_, fun b b0 b1 => ?_, h0, h1⟩
    · show inf (m1 217 b) ≤ 268435456 ∧ (inf (m1 217 b) < 268435456 → ∃ k, walk (12 : Nat) (snE d) k a b (inf (m1 217 b)))
      rw [hb b b0 b1]
      by_cases hba : b = a
      · rw [if_pos hba]
        exact ⟨by decide, fun _ => ⟨0, hba.symm, h0, h1, rfl⟩⟩
      · rw [if_neg hba]
        exact ⟨by decide, fun h => absurd h (by decide)⟩
    · rw [hb a h0 h1, if_pos rfl]
    · rw [hb b b0 b1, hct]
      split <;> omega

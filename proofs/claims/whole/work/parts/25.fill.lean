/-! Arrays.fill -/
def jfill (m : jM) (p : Int) (n x : Int) : jM := fun q i => if q = p ∧ 0 ≤ i ∧ i < n then x else m q i
theorem jfill_ne {m : jM} {p n x q : Int} (h : q ≠ p) : jfill m p n x q = m q := by funext i; simp [jfill, h]
theorem jfill_at {m : jM} {p n x i : Int} (h0 : 0 ≤ i) (h1 : i < n) : jfill m p n x p i = x := by simp [jfill, h0, h1]
theorem fill_step {m : jM} {Q : Int → jM → Prop} {p x i : Int} {n : Nat} (hp : jat SH p 0 n) (h0 : 0 ≤ i) (hy : ∀ (m : jM) (i x : Int), Lay m → Lay (jup m p i x)) (h : ((n : Int) ≤ i → Q 0 m) ∧ (¬ ((n : Int) ≤ i) → GL iJ7_fill_53178 (jup m p i x) 5 [(2, p), (0, x), (0, jw (i + 1)), (0, (n : Int))] [] Q)) : GL iJ7_fill_53178 m 5 [(2, p), (0, x), (0, i), (0, (n : Int))] [] Q := fun hL =>
  (G_iloadn (pc := 5) dJ7_fill_53178_5 rfl (G_iloadn (pc := 6) dJ7_fill_53178_6 rfl (G_icmp_ge (pc := 7) 20 dJ7_fill_53178_7 rfl (fun c1 => (G_ret (pc := 20) (st := []) rfl dJ7_fill_53178_20 rfl ⟨hL, h.1 c1⟩)) (fun c1 => (G_aloadn (pc := 10) dJ7_fill_53178_10 rfl (G_iloadn (pc := 11) dJ7_fill_53178_11 rfl (G_iloadn (pc := 12) dJ7_fill_53178_12 rfl (G_iast (pc := 13) dJ7_fill_53178_13 hp h0 (by omega) (G_iincE (pc := 14) [(2, p), (0, x), (0, jw (i + 1)), (0, (n : Int))] dJ7_fill_53178_14 rfl rfl rfl (G_goto (pc := 17) 5 dJ7_fill_53178_17 rfl (h.2 c1 (hy _ _ _ hL))))))))))))
theorem c_fill {m : jM} {Q : Int → jM → Prop} {p x : Int} {n : Nat} (hp : jat SH p 0 n) (hn : n < 2147483647) (hy : ∀ (m : jM) (i x : Int), Lay m → Lay (jup m p i x)) (h : Q 0 (jfill m p n x)) : ML iJ7_fill_53178 [(2, p), (0, x)] m Q := by
  have key : GL iJ7_fill_53178 m 5 [(2, p), (0, x), (0, 0), (0, (n : Int))] [] Q := by
    have e : m = jfill m p 0 x := by
      funext q i
      unfold jfill
      rw [if_neg (by omega)]
    have L := lup (σ := jM) (n := n) (I := fun i m' => 0 ≤ i ∧ i ≤ n ∧ m' = jfill m p i x) (G := fun i m' => GL iJ7_fill_53178 m' 5 [(2, p), (0, x), (0, i), (0, (n : Int))] [] Q) (fun i m' hi I k => by
        obtain ⟨i0, i1, rfl⟩ := I
        refine fill_step hp i0 hy ⟨fun c => absurd c (by omega), fun _ => ?_⟩
        rw [jw_id (by omega) (by omega)]
        refine k _ ⟨by omega, by omega, ?_⟩
        funext q j
        by_cases hq : q = p ∧ j = i
        · obtain ⟨rfl, rfl⟩ := hq
          rw [jup_s, jfill_at i0 (by omega)]
        · simp only [jup, if_neg hq, jfill]
          by_cases hq2 : q = p ∧ 0 ≤ j ∧ j < i
          · rw [if_pos hq2, if_pos ⟨hq2.1, hq2.2.1, by omega⟩]
          · rw [if_neg hq2, if_neg (fun z => hq2 ⟨z.1, z.2.1, by have : j ≠ i := fun e => hq ⟨z.1, e⟩; omega⟩)])
      (fun i m' hi I => by
        obtain ⟨i0, i1, rfl⟩ := I
        obtain rfl : i = n := by omega
        exact fill_step hp i0 hy ⟨fun _ => h, fun c => absurd hi c⟩) 0 m ⟨by omega, by omega, e⟩
    exact L
  exact ML_intro [(2, p), (0, x), (9, 0), (9, 0)] (by decide) (Nat.le_of_ble_eq_true rfl) rfl rfl rfl (fun hL =>
    (G_iconst (pc := 0) dJ7_fill_53178_0 (by decide) (G_istnE (pc := 1) [(2, p), (0, x), (0, 0), (9, 0)] dJ7_fill_53178_1 (Nat.le_of_ble_eq_true rfl) rfl rfl (G_aloadn (pc := 2) dJ7_fill_53178_2 rfl (G_alene (pc := 3) (by decide) (by omega) dJ7_fill_53178_3 hp rfl (G_istnE (pc := 4) [(2, p), (0, x), (0, 0), (0, (n : Int))] dJ7_fill_53178_4 (Nat.le_of_ble_eq_true rfl) rfl rfl (key hL)))))))

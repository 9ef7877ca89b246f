/-! the reference's plan listed; the fewest -/
theorem c_isBest {m : jM} {Q : Int → jM → Prop} {x r cost dr : Int} {T : Int → pT} (x0 : 0 ≤ x) (x1 : x < 64) (r0 : 0 ≤ r) (r1 : r < 64) (hx : rE x (T x).1 m) (hx0 : 0 ≤ (T x).1.1) (hr : rE r (T r).1 m) (hb : -1 ≤ (T r).1.1 ∧ (T r).1.1 ≤ 1306669320 ∧ (0 ≤ (T r).1.1 → 0 ≤ (T r).1.2.1 ∧ (T r).1.2.1 ≤ 6)) (hc : 0 ≤ cost ∧ cost ≤ 217778220) (hd : 0 ≤ dr ∧ dr ≤ 1) (hno : ¬ (0 ≤ (T r).1.1 ∧ (T r).1.1 + cost = (T x).1.1 ∧ (T r).1.2.1 + dr = (T x).1.2.1) → Q 0 m) (hQ : 0 ≤ (T r).1.1 → (T r).1.1 + cost = (T x).1.1 → (T r).1.2.1 + dr = (T x).1.2.1 → Q 1 m) : ML iX11_isBest [(2, 139), (0, x), (0, r), (0, cost), (0, dr)] m Q := by
  obtain ⟨h1, h2⟩ := hx
  obtain ⟨g1, g2⟩ := hr
  refine sX11_isBest ?_
  rw [g1, h1, h2 hx0]
  refine ⟨r0, r1, fun z => hno (by omega), fun z => ⟨r0, r1, x0, x1, ?_⟩⟩
  have tc := hb.2.2 (by omega)
  rw [g2 (by omega), jw_id (x := (T r).1.1 + cost) (by omega) (by omega), jw_id (x := (T r).1.2.1 + dr) (by omega) (by omega)]
  exact ⟨fun z2 => hno (by omega), fun z2 => ⟨r0, r1, x0, x1, fun z3 => hno (by omega), fun z3 => hQ (by omega) (by omega) (by omega)⟩⟩
theorem c_chosen {V m : jM} {Q : Int → jM → Prop} {k s x : Int} (hf : vKf V) (hk : vKt V) (hP : rPl V k s m) (s0 : 0 ≤ s) (s1 : s < V 0 2) (x0 : 0 < x) (hs : sub6 x (srv V s)) (x64 : x < 64) (hT : rT V s 64 m) (hp : 0 ≤ (tA V s x).1.1) (hn : 0 ≤ m 139 86 ∧ m 139 86 < 6) (htx : (tA V s x).1.2.2 = 0 → Q (x - 2 ^ (low x).toNat) (jup m 139 88 (jor (m 139 88) (jshl 1 (low x))))) (hrt : 0 < (tA V s x).1.2.2 → Q (x - (tA V s x).1.2.2) (jup (jup m 205 (m 139 86) (tA V s x).1.2.2) 139 86 (m 139 86 + 1))) : ML iX11_chosen [(2, 139), (0, x)] m Q := by
  have so := srv_ok hk s
  have l := lw_in x0 x64
  have d := dl_in (by omega) x64 l.1.1 l.1.2.1 l.1.2.2
  have hsl := hs _ l.1.1 l.1.2.1 l.1.2.2
  have sv := so.2.2.2 _ l.1.1 (by omega) |>.mp hsl
  have ch := tA_ch hf hk x0 x64 hp
  have hrest : jand x (jxor (jshl 1 (low x)) (-1)) = x - 2 ^ (low x).toNat := by
    have hsx : sub6 (2 ^ (low x).toNat) x := by
      intro i i0 i1 hi
      rw [tb_pow l.1.1 i0, decide_eq_true_iff] at hi
      rw [hi]; exact l.1.2.2
    have hb : (0 : Int) < 2 ^ (low x).toNat := Int.pow_pos (by decide)
    rw [jshl1 _ l.1.1 (by omega)]
    exact (sb_in (by omega) x64 (by omega) (by omega) hsx).2.1
  -- the routes in their order
  have loop : ¬ txK V s x → GL iX11_chosen m 56 [(2, 139), (0, x), (0, low x), (0, 1)] [] Q := by
    intro hnt
    have hc : 0 < (tA V s x).1.2.2 ∧ (tA V s x).1.2.2 ≤ x ∧ rtB V s x (tA V s x).1.2.2 ∧ ¬ txK V s x ∧ ∀ y, 0 ≤ y → y < (tA V s x).1.2.2 → ¬ rtB V s x y := by
      rcases ch with z | z
      · exact absurd z.2 hnt
      · exact z
    refine lup (n := x + 1) (I := fun y (m1 : jM) => 1 ≤ y ∧ y ≤ (tA V s x).1.2.2 ∧ m1 = m) (G := fun y m1 => GL iX11_chosen m1 56 [(2, 139), (0, x), (0, low x), (0, y)] [] Q) ?_ ?_ 1 m ⟨by decide, by omega, rfl⟩
    · rintro y m1 hy ⟨y1, y2, rfl⟩ K
      have skip : ¬ rtB V s x y → GL iX11_chosen m1 56 [(2, 139), (0, x), (0, low x), (0, y + 1)] [] Q := by
        intro hb
        refine K m1 ⟨by omega, ?_, rfl⟩
        have : y ≠ (tA V s x).1.2.2 := by
          intro e
          rw [e] at hb
          exact hb hc.2.2.1
        omega
      refine sX11_chosen_56 ?_
      rw [jw_id (x := y + 1) (by omega) (by omega), jshr_bit (by omega) l.1.1 (by omega)]
      refine ⟨fun w => absurd w (by omega), fun _ => ⟨fun w => skip (fun r => w ((sub_iff (by omega) (by omega) (by omega) x64).mpr r.1.1)), fun w => ⟨fun w2 => skip (fun r => ?_), fun w2 => ?_⟩⟩⟩
      · rw [if_pos r.1.2.1] at w2
        exact absurd w2 (by decide)
      · have sy : sub6 y x := (sub_iff (by omega) (by omega) (by omega) x64).mp (Classical.byContradiction w)
        have ty : tb y (low x) = true := by
          apply Classical.byContradiction
          intro v
          rw [if_neg v] at w2
          exact w2 rfl
        have ys : sub6 y (srv V s) := fun j j0 j1 hj => hs j j0 j1 (sy j j0 j1 hj)
        have al := hP.2.2 y (by omega) (sub_le hk (by omega) (by omega) ys).2
        refine ⟨by omega, by omega, fun v => skip (fun r => ?_), fun v => ⟨by omega, by omega, ?_⟩⟩
        · have := al.2.2.1.mpr r.1.2.2
          omega
        · have g : gd V s y := al.2.2.1.mp (by have := al.2.1; omega)
          have r : rtK V s x y := ⟨sy, ty, g⟩
          have ri := rtK_in x0 x64 (by omega) (by omega) r
          have q := sb_in (by omega) x64 (by omega) (by omega) sy
          have bt := tA_bd hf hk s (x := x - y) ri.2.1 (by omega)
          have pb := py_in hk (x := y) (by omega) (by omega) g
          rw [al.2.2.2 g, q.2.1]
          refine c_isBest (T := tA V s) (by omega) x64 ri.2.1 (by omega) (hT x (by omega) x64 hs) hp (hT _ ri.2.1 (by omega) (fun j j0 j1 hj => hs j j0 j1 (ri.2.2.2.1 j j0 j1 hj))) ⟨bt.1, bt.2.1, bt.2.2.1⟩ (by omega) (by decide) (fun hb => ⟨fun u => absurd rfl u, fun _ => skip (fun r => hb ⟨r.2.1, r.2.2.1, r.2.2.2⟩)⟩) (fun b1 b2 b3 => ⟨fun _ => ⟨hn.1, hn.2, ?_⟩, fun u => absurd (by decide) u⟩)
          have ey : y = (tA V s x).1.2.2 := by
            apply Classical.byContradiction
            intro ne
            exact hc.2.2.2.2 y (by omega) (by omega) ⟨r, b1, b2, b3⟩
          rw [jw_id (x := m1 139 86 + 1) (by omega) (by omega)]
          have := hrt hc.1
          rw [← ey] at this
          exact this
    · rintro y m1 hy ⟨y1, y2, rfl⟩
      omega
  refine sX11_chosen (c_firstOf x0 (by omega) (c_taxi hf hk hP.1 hP.2.1 s0 s1 l.1.1 sv.1 ⟨fun w => loop (fun tk => ?_), fun w => ?_⟩))
  · have := txC_in hf hk s (low x) tk.1
    rw [if_neg tk.1] at w
    omega
  · have hv : vD V 2 (V 8 (low x)) (V 6 s) ≠ -1 := by
      intro v
      rw [if_pos v] at w
      exact absurd (by decide) w
    have tc := txC_in hf hk s (low x) hv
    have bt := tA_bd hf hk s d.2.1 (by omega)
    refine c_taxi hf hk hP.1 hP.2.1 s0 s1 l.1.1 sv.1 ?_
    rw [if_neg hv, hrest]
    refine c_isBest (T := tA V s) (by omega) x64 d.2.1 (by omega) (hT x (by omega) x64 hs) hp (hT _ d.2.1 (by omega) (sub6_dl (by omega) x64 l.1.1 l.1.2.1 l.1.2.2 hs)) ⟨bt.1, bt.2.1, bt.2.2.1⟩ ⟨tc.1, tc.2.1⟩ (by decide) (fun hb => ⟨fun _ => loop (fun tk => hb ⟨tk.2.1, tk.2.2.1, tk.2.2.2⟩), fun u => absurd rfl u⟩) (fun b1 b2 b3 => ⟨fun u => absurd u (by decide), fun _ => htx ?_⟩)
    rcases ch with z | z
    · exact z.1
    · exact absurd ⟨hv, b1, b2, b3⟩ z.2.2.2.1
theorem c_plans {V m : jM} {Q : Int → jM → Prop} {k s : Int} (hf : vKf V) (hk : vKt V) (hP : rPl V k s m) (s0 : 0 ≤ s) (s1 : s < V 0 2) (hQ : ∀ m', frx [203, 204, 205] [(139, 86), (139, 88)] m m' → m' 203 (srv V s) = (tA V s (srv V s)).1.1 → m' 139 86 = ((plR V s).1.length : Int) → (∀ j, 0 ≤ j → j < ((plR V s).1.length : Int) → m' 205 j = fnL (plR V s).1 j) → m' 139 88 = (plR V s).2 → (plR V s).1.length ≤ 6 → Q (if (tA V s (srv V s)).1.1 < 0 then 0 else 1) m') : ML iX11_plans [(2, 139)] m Q := by
  have so := srv_ok hk s
  refine sX11_plans (c_ridden hf hk hP.1 hP.2.1 ?_)
  generalize hm0 : jup (jup m 203 0 0) 204 0 0 = m0
  have f0 : frx [203, 204, 205] [(139, 86), (139, 88)] m m0 := by rw [← hm0]; exact frx_upA (frx_upA frx_rf (by decide)) (by decide)
  have T0 : rT V s 1 m0 := by
    intro x x0 x1 _
    obtain rfl : x = 0 := by omega
    rw [tA_0, ← hm0]
    exact ⟨by rw [jup_ne (by decide), jup_s], fun _ => by rw [jup_s]⟩
  have main : ∀ m1, frx [203, 204, 205] [(139, 86), (139, 88)] m m1 → rT V s (srv V s + 1) m1 → GL iX11_plans m1 21 [(2, 139), (0, srv V s), (0, srv V s + 1), (9, 0), (9, 0)] [] Q := by
    intro m1 f1 T1
    have Tall : ∀ m2 : jM, m2 203 = m1 203 → m2 204 = m1 204 → rT V s 64 m2 := by
      intro m2 h3 h4 x x0 x1 xs
      have := T1 x x0 (by have := (sub_le hk x0 x1 xs).1; omega) xs
      unfold rE at this ⊢
      rw [h3, h4]
      exact this
    have hall := (T1 (srv V s) so.1 (by omega) (fun i _ _ h => h)).1
    refine sX11_plans_21 ⟨fun _ => ⟨so.1, so.2.1, fun z => ?_, fun z => ?_⟩, fun z => absurd (by omega) z⟩
    · rw [hall] at z
      have e : plR V s = plL V s 6 (srv V s) [] 0 := by unfold plR; rw [if_neg (by omega)]
      have key : ∀ (n : Nat) (x : Int) (r : List Int) (t : Int) (m2 : jM), 0 ≤ x → x < 64 → sub6 x (srv V s) → 0 ≤ (tA V s x).1.1 → cnt x 6 ≤ n → (r.length : Int) + n ≤ 6 → frx [203, 204, 205] [(139, 86), (139, 88)] m m2 → m2 203 = m1 203 → m2 204 = m1 204 → m2 139 86 = (r.length : Int) → (∀ j, 0 ≤ j → j < (r.length : Int) → m2 205 j = fnL r j) → m2 139 88 = t → plR V s = plL V s n x r t → GL iX11_plans m2 167 [(2, 139), (9, 0), (0, x), (9, 0), (9, 0)] [] Q := by
        intro n
        induction n with
        | zero =>
          intro x r t m2 x0 x1 xs xp xc hr f2 e3 e4 h1 h2 h3 h4
          obtain rfl := cnt_0 x0 x1 xc
          simp only [plL] at h4
          refine sX11_plans_167 ⟨fun _ => ?_, fun w => absurd rfl w⟩
          have := hQ m2 f2 (by rw [e3]; exact hall) (by rw [h4]; exact h1) (by rw [h4]; exact h2) (by rw [h4]; exact h3) (by rw [h4]; simp only; omega)
          rw [if_neg (by omega)] at this
          exact this
        | succ n ih =>
          intro x r t m2 x0 x1 xs xp xc hr f2 e3 e4 h1 h2 h3 h4
          simp only [plL] at h4
          refine sX11_plans_167 ⟨fun w => ?_, fun w => ?_⟩
          · rw [if_pos w] at h4
            have := hQ m2 f2 (by rw [e3]; exact hall) (by rw [h4]; exact h1) (by rw [h4]; exact h2) (by rw [h4]; exact h3) (by rw [h4]; simp only; omega)
            rw [if_neg (by omega)] at this
            exact this
          · rw [if_neg w] at h4
            have l := lw_in (show 0 < x by omega) x1
            have d := dl_in x0 x1 l.1.1 l.1.2.1 l.1.2.2
            have P2 : rPl V k s m2 := rPl_fr hP (agr_of f2 (by decide))
            refine c_chosen hf hk P2 s0 s1 (by omega) xs x1 (Tall m2 e3 e4) xp (by rw [h1]; omega) (fun c0 => ?_) (fun c0 => ?_)
            · rw [if_pos c0] at h4
              have tk : txK V s x := by
                rcases tA_ch hf hk (show 0 < x by omega) x1 xp with z | z
                · exact z.2
                · omega
              rw [h3]
              refine ih _ r _ _ d.2.1 (by omega) (sub6_dl x0 x1 l.1.1 l.1.2.1 l.1.2.2 xs) tk.2.1 (by omega) (by omega) (frx_upF f2 (by decide)) (by rw [jup_ne (by decide)]; exact e3) (by rw [jup_ne (by decide)]; exact e4) (by rw [jup_self, if_neg (by decide)]; exact h1) (fun j j0 j1 => by rw [jup_ne (by decide)]; exact h2 j j0 j1) jup_s h4
            · rw [if_neg (by omega)] at h4
              have rb : (tA V s x).1.2.2 ≤ x ∧ rtB V s x (tA V s x).1.2.2 := by
                rcases tA_ch hf hk (show 0 < x by omega) x1 xp with z | z
                · omega
                · exact ⟨z.2.1, z.2.2.1⟩
              have ri := rtK_in (show 0 < x by omega) x1 (by omega) (by omega) rb.2.1
              rw [h1]
              refine ih _ (r ++ [(tA V s x).1.2.2]) t _ ri.2.1 (by omega) (fun j j0 j1 hj => xs j j0 j1 (ri.2.2.2.1 j j0 j1 hj)) rb.2.2.1 (by omega) (by rw [List.length_append]; simp only [List.length_singleton]; omega) (frx_upF (frx_upA f2 (by decide)) (by decide)) (by rw [jup_ne (by decide), jup_ne (by decide)]; exact e3) (by rw [jup_ne (by decide), jup_ne (by decide)]; exact e4) (by rw [jup_s, List.length_append]; simp only [List.length_singleton]; omega) (fun j j0 j1 => ?_) (by rw [jup_self, if_neg (by decide), jup_ne (by decide)]; exact h3) h4
              rw [jup_ne (by decide), jup_self]
              rw [List.length_append] at j1
              simp only [List.length_singleton] at j1
              by_cases e5 : j = (r.length : Int)
              · rw [if_pos e5, e5]
                exact (fnL_app r [] _).symm
              · rw [if_neg e5, fnL_l j0 (by omega)]
                exact h2 j j0 (by omega)
      refine key 6 (srv V s) [] 0 _ so.1 so.2.1 (fun i _ _ h => h) z (cnt_nn _ 6).2 (by decide) (frx_upF (frx_upF f1 (by decide)) (by decide)) ?_ ?_ ?_ (fun j j0 j1 => by simp only [List.length_nil] at j1; omega) jup_s e
      · rw [jup_ne (by decide), jup_ne (by decide)]
      · rw [jup_ne (by decide), jup_ne (by decide)]
      · rw [jup_self, if_neg (by decide), jup_s]; rfl
    · rw [hall] at z
      have e : plR V s = ([], 0) := by unfold plR; rw [if_pos (by omega)]
      have := hQ (jup (jup m1 139 86 0) 139 88 0) (frx_upF (frx_upF f1 (by decide)) (by decide)) (by rw [jup_ne (by decide), jup_ne (by decide)]; exact hall) (by rw [e, jup_self, if_neg (by decide), jup_s]; rfl) (by rw [e]; intro j j0 j1; simp only [List.length_nil] at j1; omega) (by rw [e, jup_s]) (by rw [e]; decide)
      rw [if_pos (by omega)] at this
      exact this
  refine lup (n := srv V s + 1) (I := fun x m1 => 1 ≤ x ∧ x ≤ srv V s + 1 ∧ frx [203, 204, 205] [(139, 86), (139, 88)] m m1 ∧ rT V s x m1) (G := fun x m1 => GL iX11_plans m1 21 [(2, 139), (0, srv V s), (0, x), (9, 0), (9, 0)] [] Q) ?_ ?_ 1 m0 ⟨by decide, by omega, f0, T0⟩
  · rintro x m1 hx ⟨x1, -, f1, T1⟩ K
    exact c_plansT hf hk (rPl_fr hP (agr_of f1 (by decide))) s0 s1 (by omega) (by omega) T1 (fun m2 e2 T2 => K m2 ⟨by omega, by omega, frx_tr f1 (frx_mono (en2_fr e2) (by decide) (by decide)), T2⟩)
  · rintro x m1 hx ⟨x1, x2, f1, T1⟩
    obtain rfl : x = srv V s + 1 := by omega
    exact main m1 f1 T1
/-! the fewest -/
theorem wsN_fw {V : jM} {s x : Int} {T : Int → pT} {a : Int × Int × Int} (x0 : 0 < x) (x1 : x < 64) (hT : ∀ y, 0 ≤ y → y < x → (T y).2 = 99 ∨ (0 ≤ (T y).2 ∧ (T y).2 ≤ cnt y 6)) : ∀ n : Nat, n ≤ 64 → (wsN V s T x a n).2 = 99 ∨ (0 ≤ (wsN V s T x a n).2 ∧ (wsN V s T x a n).2 ≤ cnt x 6) := by
  intro n
  induction n with
  | zero => intro _; exact Or.inl rfl
  | succ n ih =>
    intro hn
    have ih := ih (by omega)
    simp only [wsN]
    split
    · rename_i q
      have r := rtK_in x0 x1 (by omega) (by omega) q
      have t := hT _ r.2.1 r.2.2.1
      simp only
      omega
    · exact ih
theorem tA_fw {V : jM} {s : Int} : ∀ (n : Nat) (x : Int), x < n → 0 ≤ x → x < 64 → (tA V s x).2 = 99 ∨ (0 ≤ (tA V s x).2 ∧ (tA V s x).2 ≤ cnt x 6) := by
  intro n
  induction n with
  | zero => intro x h1 h2; omega
  | succ n ih =>
    intro x h1 h2 h3
    by_cases e : x = 0
    · subst e
      rw [tA_0]
      exact Or.inr ⟨by decide, (cnt_nn 0 6).1⟩
    · rw [tA_eq (by omega) h3]
      exact wsN_fw (by omega) h3 (fun y y0 y1 => ih y (by omega) y0 (by omega)) _ (by omega)
def fwE (v : Int) : Int := if v = 99 then -1 else v
def rF (V : jM) (s n : Int) (m : jM) : Prop := ∀ x, 0 ≤ x → x < n → sub6 x (srv V s) → m 204 x = fwE (tA V s x).2
theorem c_fewestR {V m : jM} {Q : Int → jM → Prop} {k s : Int} (hf : vKf V) (hk : vKt V) (hP : rPl V k s m) (hQ : ∀ m', frx [204] [] m m' → Q (if (tA V s (srv V s)).2 = 99 then -2 else (tA V s (srv V s)).2) m') : GL iX11_fewest (jup m 204 0 0) 41 [(2, 139), (9, 0), (9, 0), (9, 0), (0, srv V s), (0, 1), (9, 0), (9, 0), (9, 0)] [] Q := by
  have so := srv_ok hk s
  refine lup (n := srv V s + 1) (I := fun x m1 => 1 ≤ x ∧ x ≤ srv V s + 1 ∧ frx [204] [] m m1 ∧ rF V s x m1) (G := fun x m1 => GL iX11_fewest m1 41 [(2, 139), (9, 0), (9, 0), (9, 0), (0, srv V s), (0, x), (9, 0), (9, 0), (9, 0)] [] Q) ?_ ?_ 1 _ ⟨by decide, by omega, frx_upA frx_rf (by decide), fun x x0 x1 _ => ?_⟩
  · rintro x m1 hx ⟨x1, -, f1, T1⟩ K
    have x64 : x < 64 := by omega
    have P1 : rPl V k s m1 := rPl_fr hP (agr_of f1 (by decide))
    refine sX11_fewest_41 ⟨fun z => absurd z (by omega), fun _ => ⟨by omega, x64, fun z => ?_, fun z => ?_⟩⟩
    · have hs : sub6 x (srv V s) := (sub_iff (by omega) x64 so.1 so.2.1).mp z
      have l := lw_in (show 0 < x by omega) x64
      refine c_firstOf (by omega) (by omega) ?_
      refine lup (n := x + 1) (I := fun y m2 => 1 ≤ y ∧ y ≤ x + 1 ∧ (∀ q i, ¬ (q = 204 ∧ i = x) → m2 q i = m1 q i) ∧ m2 204 x = fwE (wsN V s (tA V s) x (txA V s (tA V s) x) y.toNat).2) (G := fun y m2 => GL iX11_fewest m2 79 [(2, 139), (9, 0), (9, 0), (9, 0), (0, srv V s), (0, x), (0, low x), (0, y), (9, 0)] [] Q) ?_ ?_ 1 _ ⟨by decide, by omega, fun q i hq => ?_, ?_⟩
      · rintro y m2 hy ⟨y1, -, f2, e2⟩ K2
        have fr2 : frx [204] [] m1 m2 := fun q i hq _ => f2 q i (fun z => hq (by simp [z.1]))
        have P2 : rPl V k s m2 := rPl_fr P1 (agr_of fr2 (by decide))
        have wn : (wsN V s (tA V s) x (txA V s (tA V s) x) (y + 1).toNat).2 = @ite _ (rtK V s x y) (Classical.propDecidable _) (min (wsN V s (tA V s) x (txA V s (tA V s) x) y.toNat).2 (1 + (tA V s (x - y)).2)) (wsN V s (tA V s) x (txA V s (tA V s) x) y.toNat).2 := by
          rw [show (y + 1).toNat = y.toNat + 1 by omega]
          simp only [wsN]
          rw [Int.toNat_of_nonneg (show 0 ≤ y by omega)]
          split <;> rfl
        have skip : ¬ rtK V s x y → GL iX11_fewest m2 79 [(2, 139), (9, 0), (9, 0), (9, 0), (0, srv V s), (0, x), (0, low x), (0, y + 1), (9, 0)] [] Q := fun hn => K2 m2 ⟨by omega, by omega, f2, by rw [wn, if_neg hn]; exact e2⟩
        refine sX11_fewest_79 ?_
        rw [jw_id (x := y + 1) (by omega) (by omega), jshr_bit (by omega) l.1.1 (by omega)]
        refine ⟨fun w => absurd w (by omega), fun _ => ⟨fun w => skip (fun r => w ((sub_iff (by omega) (by omega) (by omega) x64).mpr r.1)), fun w => ⟨fun w2 => skip (fun r => ?_), fun w2 => ?_⟩⟩⟩
        · rw [if_pos r.2.1] at w2
          exact absurd w2 (by decide)
        · have sy : sub6 y x := (sub_iff (by omega) (by omega) (by omega) x64).mp (Classical.byContradiction w)
          have ty : tb y (low x) = true := by
            apply Classical.byContradiction
            intro v
            rw [if_neg v] at w2
            exact w2 rfl
          have ys : sub6 y (srv V s) := fun j j0 j1 hj => hs j j0 j1 (sy j j0 j1 hj)
          have al := P2.2.2 y (by omega) (sub_le hk (by omega) (by omega) ys).2
          refine ⟨by omega, by omega, fun v => ?_, fun v => skip (fun r => v (by rw [al.2.2.1.mpr r.2.2]; decide))⟩
          have g : gd V s y := al.2.2.1.mp (by have := al.2.1; omega)
          have r : rtK V s x y := ⟨sy, ty, g⟩
          have ri := rtK_in (show 0 < x by omega) x64 (by omega) (by omega) r
          have q := sb_in (by omega) x64 (by omega) (by omega) sy
          have rw_ := wsN_fw (V := V) (s := s) (a := txA V s (tA V s) x) (show 0 < x by omega) x64 (fun z z0 z1 => tA_fw (V := V) (s := s) 64 z (by omega) z0 (by omega)) y.toNat (by omega)
          have tw := tA_fw (V := V) (s := s) 64 (x - y) (by omega) ri.2.1 (by omega)
          have c6 := (cnt_nn x 6).2
          have c6' := (cnt_nn (x - y) 6).2
          have er : m2 204 (x - y) = fwE (tA V s (x - y)).2 := by
            rw [f2 204 (x - y) (by omega)]
            exact T1 _ ri.2.1 ri.2.2.1 (fun j j0 j1 hj => hs j j0 j1 (ri.2.2.2.1 j j0 j1 hj))
          generalize hA : (wsN V s (tA V s) x (txA V s (tA V s) x) y.toNat).2 = A at *
          generalize hB : (tA V s (x - y)).2 = B at *
          rw [q.2.1, er, e2]
          unfold fwE at *
          refine ⟨ri.2.1, by omega, fun v2 => K2 m2 ⟨by omega, by omega, f2, ?_⟩, fun v2 => ⟨by omega, x64, ?_⟩⟩
          · rw [wn, if_pos r, e2]
            split at v2 <;> split <;> split <;> omega
          · have hB9 : B ≠ 99 := by
              intro w
              rw [if_pos w] at v2
              exact v2 (by decide)
            rw [if_neg hB9] at v2 ⊢
            rw [jw_id (x := B + 1) (by omega) (by omega)]
            have put : B + 1 < A → GL iX11_fewest (jup m2 204 x (B + 1)) 79 [(2, 139), (9, 0), (9, 0), (9, 0), (0, srv V s), (0, x), (0, low x), (0, y + 1), (9, 0)] [] Q := by
              intro hlt
              refine K2 _ ⟨by omega, by omega, fun q i hq => ?_, ?_⟩
              · unfold jup
                rw [if_neg hq]
                exact f2 q i hq
              · rw [jup_s, wn, if_pos r, show min A (1 + B) = B + 1 by omega, if_neg (by omega)]
            refine ⟨fun v3 => ⟨by omega, x64, put (by split at v3 <;> omega)⟩, fun v3 => ⟨by omega, x64, fun v4 => K2 m2 ⟨by omega, by omega, f2, ?_⟩, fun v4 => ⟨by omega, x64, put (by split at v4 <;> split at v3 <;> omega)⟩⟩⟩
            rw [wn, if_pos r, e2]
            split at v4
            · split at v3
              · exact absurd (by decide) v3
              · omega
            · rw [if_neg (by assumption), show min A (1 + B) = A by omega, if_neg (by assumption)]
      · rintro y m2 hy ⟨y1, y2, f2, e2⟩
        obtain rfl : y = x + 1 := by omega
        refine sX11_fewest_79 ⟨fun _ => ?_, fun w => absurd (by omega) w⟩
        rw [jw_id (x := x + 1) (by omega) (by omega)]
        refine K m2 ⟨by omega, by omega, frx_tr f1 (fun q i hq _ => f2 q i (fun z => hq (by simp [z.1]))), fun z z0 z1 zs => ?_⟩
        by_cases e : z = x
        · rw [e, e2, tA_eq (by omega) x64]
          unfold tSt
          rw [show x.toNat + 1 = (x + 1).toNat by omega]
        · rw [f2 204 z (by omega)]
          exact T1 z z0 (by omega) zs
      · unfold jup
        rw [if_neg hq]
      · have hg := wsN_gap (V := V) (s := s) (x := x) (T := tA V s) (a := txA V s (tA V s) x) (n := 0) 1 (fun w w0 w1 hr => ?_)
        · rw [jup_s]
          show (-1 : Int) = fwE (wsN V s (tA V s) x (txA V s (tA V s) x) (0 + 1)).2
          rw [hg]
          rfl
        · have := hr.2.1
          rw [show w = 0 by omega, tb_zero] at this
          exact absurd this (by decide)
    · rw [jw_id (x := x + 1) (by omega) (by omega)]
      refine K _ ⟨by omega, by omega, frx_upA f1 (by decide), fun y y0 y1 ys => ?_⟩
      have e : y ≠ x := by
        rintro rfl
        exact z ((sub_iff (by omega) x64 so.1 so.2.1).mpr ys)
      rw [jup_self, if_neg e]
      exact T1 y y0 (by omega) ys
  · rintro x m1 hx ⟨x1, x2, f1, T1⟩
    obtain rfl : x = srv V s + 1 := by omega
    have e := T1 (srv V s) so.1 (by omega) (fun i _ _ h => h)
    have b := tA_fw (V := V) (s := s) 64 (srv V s) (by omega) so.1 so.2.1
    refine sX11_fewest_41 ⟨fun _ => ⟨so.1, so.2.1, ?_⟩, fun z => absurd (by omega) z⟩
    rw [e]
    have q := hQ m1 f1
    unfold fwE
    by_cases h : (tA V s (srv V s)).2 = 99
    · rw [if_pos h] at q ⊢
      exact ⟨fun z => absurd z (by decide), fun _ => q⟩
    · rw [if_neg h] at q ⊢
      exact ⟨fun _ => ⟨so.1, so.2.1, q⟩, fun z => absurd (by omega) z⟩
  · obtain rfl : x = 0 := by omega
    rw [jup_s, tA_0]
    rfl

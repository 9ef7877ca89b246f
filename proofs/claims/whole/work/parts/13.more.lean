/-! the logic over the layout: what a writer of method proofs sees -/
def GL (y : jY) (m : jM) (pc : Nat) (ls st : List jV) (Q : Int → jM → Prop) : Prop := Lay m → G y SH SH m pc ls st (fun r m' => Lay m' ∧ Q r m')
def ML (y : jY) (av : List jV) (m : jM) (Q : Int → jM → Prop) : Prop := Lay m → M y av SH m (fun r m' => Lay m' ∧ Q r m')
theorem ML_intro {y : jY} {av : List jV} {m : jM} {Q : Int → jM → Prop} (ls : List jV) (hy : plainName (jyn y).cls = true) (hl : (jent av).length ≤ jyl y) (hrg : jrg (jyr y) = true) (hls : ls = jpad (jyl y) (jent av)) (hw : jyw y = []) (h : GL y m 0 ls [] Q) : ML y av m Q := by
  intro hL
  refine M_intro ls hy hl hrg hls ?_
  rw [hw, List.append_nil]
  exact h hL
theorem ML_mono {y : jY} {av : List jV} {m : jM} {Q Q' : Int → jM → Prop} (h : ML y av m Q) (hq : ∀ r m, Q r m → Q' r m) : ML y av m Q' := fun hL => M_mono (h hL) (fun r m q => ⟨q.1, hq r m q.2⟩)
theorem GL_mono {y : jY} {m : jM} {pc : Nat} {ls st : List jV} {Q Q' : Int → jM → Prop} (h : GL y m pc ls st Q) (hq : ∀ r m, Q r m → Q' r m) : GL y m pc ls st Q' := fun hL => G_mono (h hL) (fun r m q => ⟨q.1, hq r m q.2⟩)
theorem GL_lay {y : jY} {m : jM} {pc : Nat} {ls st : List jV} {Q : Int → jM → Prop} (h : Lay m → GL y m pc ls st Q) : GL y m pc ls st Q := fun hL => h hL hL
theorem ML_lay {y : jY} {av : List jV} {m : jM} {Q : Int → jM → Prop} (h : Lay m → ML y av m Q) : ML y av m Q := fun hL => h hL hL
section
variable {y : jY} {fs sh : jS} {m : jM} {pc : Nat} {ls st : List jV} {Q : Int → jM → Prop}
theorem G_gete {idx ci tag n : Nat} {f p x : Int} (hd : decode (jyc y) pc = .ok (.getfield idx, 3)) (hl : jFL (jyn y).cls idx ci f tag) (ha : jat sh p (ci + 10) n) (hn : f < n) (hv : m p f = x) (k : G y fs sh m (pc + 3) ls ((tag, x) :: st) Q) : G y fs sh m pc ls ((2, p) :: st) Q := by
  subst hv; exact G_getf hd hl ha hn k
theorem G_ialde {n : Nat} {i p x : Int} (hd : decode (jyc y) pc = .ok (.iaload, 1)) (ha : jat sh p 0 n) (h0 : 0 ≤ i) (hn : i < n) (hv : m p i = x) (k : G y fs sh m (pc + 1) ls ((0, x) :: st) Q) : G y fs sh m pc ls ((0, i) :: (2, p) :: st) Q := by
  subst hv; exact G_iald hd ha h0 hn k
theorem G_zalde {n : Nat} {i p x : Int} (hd : decode (jyc y) pc = .ok (.baload, 1)) (ha : jat sh p 2 n) (h0 : 0 ≤ i) (hn : i < n) (hv : m p i = x) (k : G y fs sh m (pc + 1) ls ((0, x) :: st) Q) : G y fs sh m pc ls ((0, i) :: (2, p) :: st) Q := by
  subst hv; exact G_zald hd ha h0 hn k
theorem G_lalde {n : Nat} {i p x : Int} (hd : decode (jyc y) pc = .ok (.laload, 1)) (ha : jat sh p 1 n) (h0 : 0 ≤ i) (hn : i < n) (hv : m p i = x) (k : G y fs sh m (pc + 1) ls ((1, x) :: st) Q) : G y fs sh m pc ls ((0, i) :: (2, p) :: st) Q := by
  subst hv; exact G_lald hd ha h0 hn k
theorem G_aalde {n kd : Nat} {i p x : Int} (hkd : kd = 3 ∨ kd = 4) (hd : decode (jyc y) pc = .ok (.aaload, 1)) (ha : jat sh p kd n) (h0 : 0 ≤ i) (hn : i < n) (hv : m p i = x) (k : G y fs sh m (pc + 1) ls ((2, x) :: st) Q) : G y fs sh m pc ls ((0, i) :: (2, p) :: st) Q := by
  subst hv; exact G_aald hkd hd ha h0 hn k
theorem G_alene {n kd : Nat} {p x : Int} (hkd : kd < 5) (hn : n < 2147483648) (hd : decode (jyc y) pc = .ok (.arraylength, 1)) (ha : jat sh p kd n) (hv : (n : Int) = x) (k : G y fs sh m (pc + 1) ls ((0, x) :: st) Q) : G y fs sh m pc ls ((2, p) :: st) Q := by
  subst hv; exact G_alen hkd hn hd ha k
theorem G_istnE {i : Fin 4} {x : Int} (ls' : List jV) (hd : decode (jyc y) pc = .ok (.istore_n i, 1)) (hi : (i : Nat) < ls.length) (hn : jnl ls (i : Nat) = true) (hs : ls.set (i : Nat) (0, x) = ls') (k : G y fs sh m (pc + 1) ls' st Q) : G y fs sh m pc ls ((0, x) :: st) Q := by
  subst hs; exact G_istoren hd hi hn k
theorem G_istE {i : Nat} {x : Int} (ls' : List jV) (hd : decode (jyc y) pc = .ok (.istore i, 2)) (hi : i < ls.length) (hn : jnl ls i = true) (hs : ls.set i (0, x) = ls') (k : G y fs sh m (pc + 2) ls' st Q) : G y fs sh m pc ls ((0, x) :: st) Q := by
  subst hs; exact G_istore hd hi hn k
theorem G_astnE {i : Fin 4} {x : Int} (ls' : List jV) (hd : decode (jyc y) pc = .ok (.astore_n i, 1)) (hi : (i : Nat) < ls.length) (hn : jnl ls (i : Nat) = true) (hs : ls.set (i : Nat) (2, x) = ls') (k : G y fs sh m (pc + 1) ls' st Q) : G y fs sh m pc ls ((2, x) :: st) Q := by
  subst hs; exact G_astoren hd hi hn k
theorem G_astE {i : Nat} {x : Int} (ls' : List jV) (hd : decode (jyc y) pc = .ok (.astore i, 2)) (hi : i < ls.length) (hn : jnl ls i = true) (hs : ls.set i (2, x) = ls') (k : G y fs sh m (pc + 2) ls' st Q) : G y fs sh m pc ls ((2, x) :: st) Q := by
  subst hs; exact G_astore hd hi hn k
theorem G_lstnE {i : Fin 4} {x : Int} (ls' : List jV) (hd : decode (jyc y) pc = .ok (.lstore_n i, 1)) (hi : (i : Nat) + 1 < ls.length) (hn : jnl ls (i : Nat) = true) (hs : (ls.set (i : Nat) (1, x)).set ((i : Nat) + 1) (9, 0) = ls') (k : G y fs sh m (pc + 1) ls' st Q) : G y fs sh m pc ls ((1, x) :: st) Q := by
  subst hs; exact G_lstoren hd hi hn k
theorem G_iincE {i : Nat} {n x : Int} (ls' : List jV) (hd : decode (jyc y) pc = .ok (.iinc i n, 3)) (hi : ls[i]? = some (0, x)) (hn : jnl ls i = true) (hs : ls.set i (0, jw (x + n)) = ls') (k : G y fs sh m (pc + 3) ls' st Q) : G y fs sh m pc ls st Q := by
  subst hs; exact G_iinc hd hi hn k
theorem G_putL {idx ci tag n : Nat} {f p x : Int} (hd : decode (jyc y) pc = .ok (.putfield idx, 3)) (hl : jFL (jyn y).cls idx ci f tag) (hf : jFfin ci f false) (hz : ∀ x : Int, jfit (jty ci f.toNat) x) (ha : jat sh p (ci + 10) n) (hn : f < n) (k : G y fs sh (jup m p f x) (pc + 3) ls st Q) : G y fs sh m pc ls ((tag, x) :: (2, p) :: st) Q := G_putf hd hl hf ha hn (hz x) k
theorem G_putZ {idx ci tag n : Nat} {f p x : Int} (hd : decode (jyc y) pc = .ok (.putfield idx, 3)) (hl : jFL (jyn y).cls idx ci f tag) (hf : jFfin ci f false) (hz : ∀ x : Int, (x = 0 ∨ x = 1) → jfit (jty ci f.toNat) x) (hb : x = 0 ∨ x = 1) (ha : jat sh p (ci + 10) n) (hn : f < n) (k : G y fs sh (jup m p f x) (pc + 3) ls st Q) : G y fs sh m pc ls ((tag, x) :: (2, p) :: st) Q := G_putf hd hl hf ha hn (hz x hb) k
end
def jwk : List jV → List jV → Prop
  | [], [] => True
  | a :: l, b :: l' => (a = b ∨ b = (9, 0)) ∧ jwk l l'
  | _, _ => False
theorem jwk_at : ∀ {l l' : List jV}, jwk l l' → l.length = l'.length ∧ ∀ (i : Nat) (v : jV), l'[i]? = some v → v.1 ≠ 9 → l[i]? = some v := by
  intro l
  induction l with
  | nil =>
    intro l' h
    cases l' with
    | nil => exact ⟨rfl, fun i v h _ => h⟩
    | cons b l' => exact h.elim
  | cons a l ih =>
    intro l' h
    cases l' with
    | nil => exact h.elim
    | cons b l' =>
      obtain ⟨h1, h2⟩ := ih h.2
      refine ⟨by simp [h1], fun i v hi h9 => ?_⟩
      cases i with
      | zero =>
        rcases h.1 with e | e
        · subst e; exact hi
        · subst e; cases hi; exact absurd rfl h9
      | succ i => exact h2 i v (by simpa using hi) h9
/-- fewer locals are known -/
theorem G_weak {y : jY} {fs sh : jS} {m : jM} {pc : Nat} {ls ls' st : List jV} {Q : Int → jM → Prop} (h : jwk ls ls') (k : G y fs sh m pc ls' st Q) : G y fs sh m pc ls st Q := by
  intro w p l e R s mm args below meth c H locs cells slots c0 s0 Z la C hH hS hL h1 h2 hc hs hfc hfs hret
  obtain ⟨e1, e2⟩ := jwk_at h
  refine k w p l e R s mm args below meth c H locs cells slots c0 s0 Z la C hH hS ⟨e1 ▸ hL.1, hL.2.1, hL.2.2.1, fun q hq => ?_⟩ (fun v hv => ?_) h2 hc hs hfc hfs hret
  · obtain ⟨i, x⟩ := q
    obtain ⟨v, g1, g2, rfl⟩ := jlv_mem.mp hq
    exact hL.2.2.2 _ (jlv_mem.mpr ⟨v, e2 i v g1 g2, g2, rfl⟩)
  · obtain ⟨i, hi⟩ := List.getElem?_of_mem hv
    by_cases h9 : v.1 = 9
    · exact ⟨fun h => by omega, fun h => by omega⟩
    · exact h1 v (List.mem_of_getElem? (e2 i v hi h9))
theorem jupN {m : jM} {p i x q j : Int} (h : q ≠ p) : jup m p i x q j = m q j := by simp [jup, h]
theorem jupI {m : jM} {p i x j : Int} (h : j ≠ i) : jup m p i x p j = m p j := by simp [jup, h]
theorem lay_texts {m : jM} (h : Lay m) {i : Int} (h0 : 0 ≤ i) (h1 : i < (3 : Nat)) : m 12 i = 27 + 12 * i := by
  have : i = 0 ∨ i = 1 ∨ i = 2 := by omega
  rcases this with rfl | rfl | rfl
  · exact ly_12_0 h
  · exact ly_12_1 h
  · exact ly_12_2 h
theorem lay_plans {m : jM} (h : Lay m) {i : Int} (h0 : 0 ≤ i) (h1 : i < (3 : Nat)) : m 63 i = 64 + 14 * i := by
  have : i = 0 ∨ i = 1 ∨ i = 2 := by omega
  rcases this with rfl | rfl | rfl
  · exact ly_63_0 h
  · exact ly_63_1 h
  · exact ly_63_2 h
theorem jTx_i {i : Int} (h0 : 0 ≤ i) (h1 : i < (3 : Nat)) : jTx (27 + 12 * i) := by unfold jTx; omega
theorem jPl_i {i : Int} (h0 : 0 ≤ i) (h1 : i < (3 : Nat)) : jPl (64 + 14 * i) := by unfold jPl; omega
